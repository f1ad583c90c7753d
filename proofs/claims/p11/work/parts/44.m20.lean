/-! 144 FormulaTrees$Tree.letterOf(II)I -/
set_option maxRecDepth 100000 in
theorem zm144 : zP[144]? = some zM144 := rfl
def dm144_11 (b0 : Nat) (x1 : Int32) (x2 : Int32) (y0 : Int32) (s : aS) : Option (Int32) :=
  if y0 = 0 then
    some (-1)
  else
    bu (dm57 b0 x1 9 s) fun r4 =>
    bu (dm34 (b0 + 2) (r4 + x2) s) fun r7 =>
    some r7
set_option maxRecDepth 100000 in
theorem dt144_11 {sio : Bool} {tt : Nat} {cc : Nat → Nat → Int32} {d : Nat} (hd : 1 ≤ d) {b0 : Nat} {x1 : Int32} {x2 : Int32} {y0 : Int32} {s : aS} (hl : Ly tt cc s) (hk_b0 : aK s b0 3) {o : Int32} (h : dm144_11  b0 x1 x2 y0 s = some o) : Q 1 sio tt cc d 144 11 [some (.ref b0), some (.int x1), some (.int x2), none] [.int y0] s (.inl (some (.int o)), s) := by
  unfold dm144_11 at h
  obtain ⟨d, rfl⟩ : ∃ e, d = e + 1 := ⟨d - 1, by omega⟩
  refine Q.run zm144 2 (i' := 13) (ls' := [some (.ref b0), some (.int x1), some (.int x2), some (.int y0)]) (st' := [.int y0]) rfl ?_
  by_cases hc1 : y0 = 0
  · rw [if_pos hc1] at h
    refine Q.map (A.zT (gI_of zm144 (e := (22, 3, .ifCond .eq 22, [24])) rfl) (decide_eq_true hc1)) ?_
    refine Q.run zm144 1 (i' := 25) (ls' := [some (.ref b0), some (.int x1), some (.int x2), some (.int y0)]) (st' := [.int (-1)]) rfl ?_
    cases h
    exact Q.ret (A.ri zm144 (show zM144.2.2.2.2.2[25]? = some (45, 1, .ireturn, []) from rfl) rfl rfl) hl
  · rw [if_neg hc1] at h
    refine Q.map (A.zF (gI_of zm144 (e := (22, 3, .ifCond .eq 22, [24])) rfl) (fun q => hc1 (of_decide_eq_true q))) ?_
    refine Q.run zm144 1 (i' := 15) (ls' := [some (.ref b0), some (.int x1), some (.int x2), some (.int y0)]) (st' := [.ref b0]) rfl ?_
    refine Q.map (A.gf (gI_of zm144 (e := (26, 3, .getfield 20, [3, 1])) rfl) hk_b0.1 (hl.tr hk_b0).1 (by decide) (hl.tr hk_b0).2.2.1) ?_
    refine Q.run zm144 3 (i' := 19) (ls' := [some (.ref b0), some (.int x1), some (.int x2), some (.int y0)]) (st' := [.int 9, .int x1, .ref b0, .ref (b0 + 2)]) rfl ?_
    obtain ⟨r4, hc3, h⟩ := bu_so h
    have hq2 : Q 1 sio tt cc d 57 0 [some (.ref b0), some (.int x1), some (.int 9), none] [] s (.inl (some (.int r4)), s) := dt57 (by omega) hl hk_b0 hc3
    refine Q.callI (gC_vi zm144 (show zM144.2.2.2.2.2[19]? = some (33, 3, .invokevirtual 28, [0, 57, 2, 3]) from rfl) zm57 hk_b0.1 (hl.tr hk_b0).1 rfl (show aCr 2 b0 [.int 9, .int x1, .ref b0, .ref (b0 + 2)] 4 = some ([some (.ref b0), some (.int x1), some (.int 9), none], [.ref (b0 + 2)]) from rfl)) hq2 ?_
    refine Q.run zm144 2 (i' := 22) (ls' := [some (.ref b0), some (.int x1), some (.int x2), some (.int y0)]) (st' := [.int (r4 + x2), .ref (b0 + 2)]) rfl ?_
    obtain ⟨r7, hc6, h⟩ := bu_so h
    have hq5 : Q 1 sio tt cc d 34 0 [some (.ref (b0 + 2)), some (.int (r4 + x2))] [] s (.inl (some (.int r7)), s) := dt34 (by omega) hl (hl.leK hk_b0) hc6
    refine Q.callI (gC_vi zm144 (show zM144.2.2.2.2.2[22]? = some (38, 3, .invokevirtual 32, [0, 34, 1, 1]) from rfl) zm34 (by have := (hl.tr hk_b0).2.2.2.1; omega) (hl.tr hk_b0).2.2.2.2.2.1 rfl (show aCr 1 (b0 + 2) [.int (r4 + x2), .ref (b0 + 2)] 2 = some ([some (.ref (b0 + 2)), some (.int (r4 + x2))], []) from rfl)) hq5 ?_
    refine Q.run zm144 1 (i' := 25) (ls' := [some (.ref b0), some (.int x1), some (.int x2), some (.int y0)]) (st' := [.int r7]) rfl ?_
    cases h
    exact Q.ret (A.ri zm144 (show zM144.2.2.2.2.2[25]? = some (45, 1, .ireturn, []) from rfl) rfl rfl) hl
def dm144_10 (b0 : Nat) (x1 : Int32) (x2 : Int32) (s : aS) : Option (Int32) :=
  dm144_11 b0 x1 x2 0 s
set_option maxRecDepth 100000 in
theorem dt144_10 {sio : Bool} {tt : Nat} {cc : Nat → Nat → Int32} {d : Nat} (hd : 1 ≤ d) {b0 : Nat} {x1 : Int32} {x2 : Int32} {s : aS} (hl : Ly tt cc s) (hk_b0 : aK s b0 3) {o : Int32} (h : dm144_10  b0 x1 x2 s = some o) : Q 1 sio tt cc d 144 10 [some (.ref b0), some (.int x1), some (.int x2), none] [] s (.inl (some (.int o)), s) := by
  unfold dm144_10 at h
  obtain ⟨d, rfl⟩ : ∃ e, d = e + 1 := ⟨d - 1, by omega⟩
  refine Q.run zm144 1 (i' := 11) (ls' := [some (.ref b0), some (.int x1), some (.int x2), none]) (st' := [.int 0]) rfl ?_
  exact dt144_11 hd hl hk_b0 h
def dm144 (b0 : Nat) (x1 : Int32) (x2 : Int32) (s : aS) : Option (Int32) :=
  if x2 < 0 then
    dm144_10 b0 x1 x2 s
  else
    bu (dm57 b0 x1 10 s) fun r4 =>
    if r4 ≤ x2 then
      dm144_10 b0 x1 x2 s
    else
      dm144_11 b0 x1 x2 1 s
set_option maxRecDepth 100000 in
theorem dt144 {sio : Bool} {tt : Nat} {cc : Nat → Nat → Int32} {d : Nat} (hd : 1 ≤ d) {b0 : Nat} {x1 : Int32} {x2 : Int32} {s : aS} (hl : Ly tt cc s) (hk_b0 : aK s b0 3) {o : Int32} (h : dm144  b0 x1 x2 s = some o) : Q 1 sio tt cc d 144 0 [some (.ref b0), some (.int x1), some (.int x2), none] [] s (.inl (some (.int o)), s) := by
  unfold dm144 at h
  obtain ⟨d, rfl⟩ : ∃ e, d = e + 1 := ⟨d - 1, by omega⟩
  refine Q.run zm144 1 (i' := 1) (ls' := [some (.ref b0), some (.int x1), some (.int x2), none]) (st' := [.int x2]) rfl ?_
  by_cases hc1 : x2 < 0
  · rw [if_pos hc1] at h
    refine Q.map (A.zT (gI_of zm144 (e := (1, 3, .ifCond .lt 18, [10])) rfl) (decide_eq_true hc1)) ?_
    exact dt144_10 hd hl hk_b0 h
  · rw [if_neg hc1] at h
    refine Q.map (A.zF (gI_of zm144 (e := (1, 3, .ifCond .lt 18, [10])) rfl) (fun q => hc1 (of_decide_eq_true q))) ?_
    refine Q.run zm144 4 (i' := 6) (ls' := [some (.ref b0), some (.int x1), some (.int x2), none]) (st' := [.int 10, .int x1, .ref b0, .int x2]) rfl ?_
    obtain ⟨r4, hc3, h⟩ := bu_so h
    have hq2 : Q 1 sio tt cc d 57 0 [some (.ref b0), some (.int x1), some (.int 10), none] [] s (.inl (some (.int r4)), s) := dt57 (by omega) hl hk_b0 hc3
    refine Q.callI (gC_vi zm144 (show zM144.2.2.2.2.2[6]? = some (9, 3, .invokevirtual 28, [0, 57, 2, 3]) from rfl) zm57 hk_b0.1 (hl.tr hk_b0).1 rfl (show aCr 2 b0 [.int 10, .int x1, .ref b0, .int x2] 4 = some ([some (.ref b0), some (.int x1), some (.int 10), none], [.int x2]) from rfl)) hq2 ?_
    by_cases hc5 : r4 ≤ x2
    · rw [if_pos hc5] at h
      refine Q.map (A.bT (gI_of zm144 (e := (12, 3, .if_icmp .ge 7, [10])) rfl) (decide_eq_true hc5)) ?_
      exact dt144_10 hd hl hk_b0 h
    · rw [if_neg hc5] at h
      refine Q.map (A.bF (gI_of zm144 (e := (12, 3, .if_icmp .ge 7, [10])) rfl) (fun q => hc5 (of_decide_eq_true q))) ?_
      refine Q.run zm144 2 (i' := 11) (ls' := [some (.ref b0), some (.int x1), some (.int x2), none]) (st' := [.int 1]) rfl ?_
      exact dt144_11 hd hl hk_b0 h
/-! 143 FormulaTrees$Writer.writeLetters(I)V -/
set_option maxRecDepth 100000 in
theorem zm143 : zP[143]? = some zM143 := rfl
def dm143_2 : Nat → Int32 → Int32 → aS → Option (aS)
  | 0, _, _, _ => none
  | n + 1, x1, x2, s =>
    vN (sR s 117 5) (
      none
    ) fun b2 =>
      if aK s b2 3 then
        bu (dm57 b2 x1 10 s) fun r6 =>
        if r6 ≤ x2 then
          some s
        else
          vN (sR s 117 5) (
            none
          ) fun b9 =>
            if aK s b9 3 then
              bu (dm144 b9 x1 x2 s) fun r13 =>
              bu (dm141 r13 s) fun s16 =>
              dm143_2 n x1 (x2 + 1) s16
            else none
      else none
set_option maxRecDepth 100000 in
theorem dt143_2 {sio : Bool} {tt : Nat} {cc : Nat → Nat → Int32} {d : Nat} (hd : 2 ≤ d) : ∀ (n : Nat) {x1 : Int32} {x2 : Int32} {s : aS} (_ : Ly tt cc s) {o : aS} (_ : dm143_2  n x1 x2 s = some o), Q 1 sio tt cc d 143 2 [some (.ref 117), some (.int x1), some (.int x2)] [] s (.inl none, o) := by
  obtain ⟨d, rfl⟩ : ∃ e, d = e + 1 := ⟨d - 1, by omega⟩
  intro n
  induction n with
  | zero => intro x1 x2 s hl o h; rw [dm143_2] at h; cases h
  | succ n ih =>
    intro x1 x2 s hl o h
    rw [dm143_2] at h
    refine Q.run zm143 2 (i' := 4) (ls' := [some (.ref 117), some (.int x1), some (.int x2)]) (st' := [.ref 117, .int x2]) rfl ?_
    rcases vN_so h with ⟨hv1, h⟩ | ⟨b2, hv1, h⟩
    · refine Q.map (A.gf (gI_of zm143 (e := (4, 3, .getfield 26, [8, 5])) rfl) (hl.lt (a := 117) (by decide)) (hl.T (a := 117) (p := (8, 11)) 39 rfl rfl) (by decide) hv1) ?_
      refine Q.run zm143 2 (i' := 7) (ls' := [some (.ref 117), some (.int x1), some (.int x2)]) (st' := [.int 10, .int x1, .null, .int x2]) rfl ?_
      cases h
    · obtain ⟨hr3, h⟩ := ite_so h
      refine Q.map (A.gf (gI_of zm143 (e := (4, 3, .getfield 26, [8, 5])) rfl) (hl.lt (a := 117) (by decide)) (hl.T (a := 117) (p := (8, 11)) 39 rfl rfl) (by decide) hv1) ?_
      refine Q.run zm143 2 (i' := 7) (ls' := [some (.ref 117), some (.int x1), some (.int x2)]) (st' := [.int 10, .int x1, .ref b2, .int x2]) rfl ?_
      obtain ⟨r6, hc5, h⟩ := bu_so h
      have hq4 : Q 1 sio tt cc d 57 0 [some (.ref b2), some (.int x1), some (.int 10), none] [] s (.inl (some (.int r6)), s) := dt57 (by omega) hl hr3 hc5
      refine Q.callI (gC_vi zm143 (show zM143.2.2.2.2.2[7]? = some (10, 3, .invokevirtual 75, [0, 57, 2, 3]) from rfl) zm57 hr3.1 (hl.tr hr3).1 rfl (show aCr 2 b2 [.int 10, .int x1, .ref b2, .int x2] 4 = some ([some (.ref b2), some (.int x1), some (.int 10), none], [.int x2]) from rfl)) hq4 ?_
      by_cases hc7 : r6 ≤ x2
      · rw [if_pos hc7] at h
        refine Q.map (A.bT (gI_of zm143 (e := (13, 3, .if_icmp .ge 22, [18])) rfl) (decide_eq_true hc7)) ?_
        cases h
        exact Q.ret (A.rv zm143 (show zM143.2.2.2.2.2[18]? = some (35, 1, .return_, []) from rfl) rfl) hl
      · rw [if_neg hc7] at h
        refine Q.map (A.bF (gI_of zm143 (e := (13, 3, .if_icmp .ge 22, [18])) rfl) (fun q => hc7 (of_decide_eq_true q))) ?_
        refine Q.run zm143 2 (i' := 11) (ls' := [some (.ref 117), some (.int x1), some (.int x2)]) (st' := [.ref 117, .ref 117]) rfl ?_
        rcases vN_so h with ⟨hv8, h⟩ | ⟨b9, hv8, h⟩
        · refine Q.map (A.gf (gI_of zm143 (e := (18, 3, .getfield 26, [8, 5])) rfl) (hl.lt (a := 117) (by decide)) (hl.T (a := 117) (p := (8, 11)) 39 rfl rfl) (by decide) hv8) ?_
          refine Q.run zm143 2 (i' := 14) (ls' := [some (.ref 117), some (.int x1), some (.int x2)]) (st' := [.int x2, .int x1, .null, .ref 117]) rfl ?_
          cases h
        · obtain ⟨hr10, h⟩ := ite_so h
          refine Q.map (A.gf (gI_of zm143 (e := (18, 3, .getfield 26, [8, 5])) rfl) (hl.lt (a := 117) (by decide)) (hl.T (a := 117) (p := (8, 11)) 39 rfl rfl) (by decide) hv8) ?_
          refine Q.run zm143 2 (i' := 14) (ls' := [some (.ref 117), some (.int x1), some (.int x2)]) (st' := [.int x2, .int x1, .ref b9, .ref 117]) rfl ?_
          obtain ⟨r13, hc12, h⟩ := bu_so h
          have hq11 : Q 1 sio tt cc d 144 0 [some (.ref b9), some (.int x1), some (.int x2), none] [] s (.inl (some (.int r13)), s) := dt144 (by omega) hl hr10 hc12
          refine Q.callI (gC_vi zm143 (show zM143.2.2.2.2.2[14]? = some (23, 3, .invokevirtual 142, [0, 144, 2, 3]) from rfl) zm144 hr10.1 (hl.tr hr10).1 rfl (show aCr 2 b9 [.int x2, .int x1, .ref b9, .ref 117] 4 = some ([some (.ref b9), some (.int x1), some (.int x2), none], [.ref 117]) from rfl)) hq11 ?_
          obtain ⟨s16, hc15, h⟩ := bu_so h
          have hq14 : Q 1 sio tt cc d 141 0 [some (.ref 117), some (.int r13)] [] s (.inl none, s16) := dt141 (by omega) hl  hc15
          refine Q.callV (gC_vi zm143 (show zM143.2.2.2.2.2[15]? = some (26, 3, .invokevirtual 72, [0, 141, 1, 8]) from rfl) zm141 (hl.lt (a := 117) (by decide)) (hl.T (a := 117) (p := (8, 11)) 39 rfl rfl) rfl (show aCr 1 117 [.int r13, .ref 117] 2 = some ([some (.ref 117), some (.int r13)], []) from rfl)) hq14 ?_
          have hr17 : aK s16 b2 3 := hq14.2.1.k hr3
          have hr18 : aK s16 b9 3 := hq14.2.1.k hr10
          refine Q.run zm143 2 (i' := 2) (ls' := [some (.ref 117), some (.int x1), some (.int (x2 + 1))]) (st' := []) rfl ?_
          exact ih hq14.1  h
def dm143 (x1 : Int32) (s : aS) : Option (aS) :=
  dm143_2 5000 x1 0 s
set_option maxRecDepth 100000 in
theorem dt143 {sio : Bool} {tt : Nat} {cc : Nat → Nat → Int32} {d : Nat} (hd : 2 ≤ d) {x1 : Int32} {s : aS} (hl : Ly tt cc s) {o : aS} (h : dm143  x1 s = some o) : Q 1 sio tt cc d 143 0 [some (.ref 117), some (.int x1), none] [] s (.inl none, o) := by
  unfold dm143 at h
  obtain ⟨d, rfl⟩ : ∃ e, d = e + 1 := ⟨d - 1, by omega⟩
  refine Q.run zm143 2 (i' := 2) (ls' := [some (.ref 117), some (.int x1), some (.int 0)]) (st' := []) rfl ?_
  exact dt143_2 hd _ hl  h
/-! 146 FormulaTrees$Writer.writeDoubling(II)V -/
set_option maxRecDepth 100000 in
theorem zm146 : zP[146]? = some zM146 := rfl
def dm146 (x1 : Int32) (x2 : Int32) (s : aS) : Option (aS) :=
  bu (dm141 x1 s) fun s3 =>
  if x1 = x2 then
    bu (dm141 x1 s3) fun s7 =>
    some s7
  else
    some s3
set_option maxRecDepth 100000 in
theorem dt146 {sio : Bool} {tt : Nat} {cc : Nat → Nat → Int32} {d : Nat} (hd : 1 ≤ d) {x1 : Int32} {x2 : Int32} {s : aS} (hl : Ly tt cc s) {o : aS} (h : dm146  x1 x2 s = some o) : Q 1 sio tt cc d 146 0 [some (.ref 117), some (.int x1), some (.int x2)] [] s (.inl none, o) := by
  unfold dm146 at h
  obtain ⟨d, rfl⟩ : ∃ e, d = e + 1 := ⟨d - 1, by omega⟩
  refine Q.run zm146 2 (i' := 2) (ls' := [some (.ref 117), some (.int x1), some (.int x2)]) (st' := [.int x1, .ref 117]) rfl ?_
  obtain ⟨s3, hc2, h⟩ := bu_so h
  have hq1 : Q 1 sio tt cc d 141 0 [some (.ref 117), some (.int x1)] [] s (.inl none, s3) := dt141 (by omega) hl  hc2
  refine Q.callV (gC_vi zm146 (show zM146.2.2.2.2.2[2]? = some (2, 3, .invokevirtual 72, [0, 141, 1, 8]) from rfl) zm141 (hl.lt (a := 117) (by decide)) (hl.T (a := 117) (p := (8, 11)) 39 rfl rfl) rfl (show aCr 1 117 [.int x1, .ref 117] 2 = some ([some (.ref 117), some (.int x1)], []) from rfl)) hq1 ?_
  refine Q.run zm146 2 (i' := 5) (ls' := [some (.ref 117), some (.int x1), some (.int x2)]) (st' := [.int x2, .int x1]) rfl ?_
  by_cases hc4 : x1 = x2
  · rw [if_pos hc4] at h
    refine Q.map (A.bF (gI_of zm146 (e := (7, 3, .if_icmp .ne 8, [9])) rfl) (fun q => of_decide_eq_true q hc4)) ?_
    refine Q.run zm146 2 (i' := 8) (ls' := [some (.ref 117), some (.int x1), some (.int x2)]) (st' := [.int x1, .ref 117]) rfl ?_
    obtain ⟨s7, hc6, h⟩ := bu_so h
    have hq5 : Q 1 sio tt cc d 141 0 [some (.ref 117), some (.int x1)] [] s3 (.inl none, s7) := dt141 (by omega) hq1.1  hc6
    refine Q.callV (gC_vi zm146 (show zM146.2.2.2.2.2[8]? = some (12, 3, .invokevirtual 72, [0, 141, 1, 8]) from rfl) zm141 (hq1.1.lt (a := 117) (by decide)) (hq1.1.T (a := 117) (p := (8, 11)) 39 rfl rfl) rfl (show aCr 1 117 [.int x1, .ref 117] 2 = some ([some (.ref 117), some (.int x1)], []) from rfl)) hq5 ?_
    cases h
    exact Q.ret (A.rv zm146 (show zM146.2.2.2.2.2[9]? = some (15, 1, .return_, []) from rfl) rfl) hq5.1
  · rw [if_neg hc4] at h
    refine Q.map (A.bT (gI_of zm146 (e := (7, 3, .if_icmp .ne 8, [9])) rfl) (decide_eq_true hc4)) ?_
    cases h
    exact Q.ret (A.rv zm146 (show zM146.2.2.2.2.2[9]? = some (15, 1, .return_, []) from rfl) rfl) hq1.1
/-! 145 FormulaTrees$Writer.writeText(I)V -/
set_option maxRecDepth 100000 in
theorem zm145 : zP[145]? = some zM145 := rfl
def dm145_5 : Nat → Int32 → Int32 → aS → Option (aS)
  | 0, _, _, _ => none
  | n + 1, x1, x2, s =>
    vN (sR s 117 5) (
      none
    ) fun b2 =>
      if aK s b2 3 then
        bu (dm57 b2 x1 10 s) fun r6 =>
        if r6 ≤ x2 then
          bu (dm141 34 s) fun s10 =>
          some s10
        else
          vN (sR s 117 5) (
            none
          ) fun b13 =>
            if aK s b13 3 then
              bu (dm144 b13 x1 x2 s) fun r17 =>
              bu (dm146 r17 34 s) fun s20 =>
              dm145_5 n x1 (x2 + 1) s20
            else none
      else none
set_option maxRecDepth 100000 in
theorem dt145_5 {sio : Bool} {tt : Nat} {cc : Nat → Nat → Int32} {d : Nat} (hd : 2 ≤ d) : ∀ (n : Nat) {x1 : Int32} {x2 : Int32} {s : aS} (_ : Ly tt cc s) {o : aS} (_ : dm145_5  n x1 x2 s = some o), Q 1 sio tt cc d 145 5 [some (.ref 117), some (.int x1), some (.int x2)] [] s (.inl none, o) := by
  obtain ⟨d, rfl⟩ : ∃ e, d = e + 1 := ⟨d - 1, by omega⟩
  intro n
  induction n with
  | zero => intro x1 x2 s hl o h; rw [dm145_5] at h; cases h
  | succ n ih =>
    intro x1 x2 s hl o h
    rw [dm145_5] at h
    refine Q.run zm145 2 (i' := 7) (ls' := [some (.ref 117), some (.int x1), some (.int x2)]) (st' := [.ref 117, .int x2]) rfl ?_
    rcases vN_so h with ⟨hv1, h⟩ | ⟨b2, hv1, h⟩
    · refine Q.map (A.gf (gI_of zm145 (e := (10, 3, .getfield 26, [8, 5])) rfl) (hl.lt (a := 117) (by decide)) (hl.T (a := 117) (p := (8, 11)) 39 rfl rfl) (by decide) hv1) ?_
      refine Q.run zm145 2 (i' := 10) (ls' := [some (.ref 117), some (.int x1), some (.int x2)]) (st' := [.int 10, .int x1, .null, .int x2]) rfl ?_
      cases h
    · obtain ⟨hr3, h⟩ := ite_so h
      refine Q.map (A.gf (gI_of zm145 (e := (10, 3, .getfield 26, [8, 5])) rfl) (hl.lt (a := 117) (by decide)) (hl.T (a := 117) (p := (8, 11)) 39 rfl rfl) (by decide) hv1) ?_
      refine Q.run zm145 2 (i' := 10) (ls' := [some (.ref 117), some (.int x1), some (.int x2)]) (st' := [.int 10, .int x1, .ref b2, .int x2]) rfl ?_
      obtain ⟨r6, hc5, h⟩ := bu_so h
      have hq4 : Q 1 sio tt cc d 57 0 [some (.ref b2), some (.int x1), some (.int 10), none] [] s (.inl (some (.int r6)), s) := dt57 (by omega) hl hr3 hc5
      refine Q.callI (gC_vi zm145 (show zM145.2.2.2.2.2[10]? = some (16, 3, .invokevirtual 75, [0, 57, 2, 3]) from rfl) zm57 hr3.1 (hl.tr hr3).1 rfl (show aCr 2 b2 [.int 10, .int x1, .ref b2, .int x2] 4 = some ([some (.ref b2), some (.int x1), some (.int 10), none], [.int x2]) from rfl)) hq4 ?_
      by_cases hc7 : r6 ≤ x2
      · rw [if_pos hc7] at h
        refine Q.map (A.bT (gI_of zm145 (e := (19, 3, .if_icmp .ge 24, [22])) rfl) (decide_eq_true hc7)) ?_
        refine Q.run zm145 2 (i' := 24) (ls' := [some (.ref 117), some (.int x1), some (.int x2)]) (st' := [.int 34, .ref 117]) rfl ?_
        obtain ⟨s10, hc9, h⟩ := bu_so h
        have hq8 : Q 1 sio tt cc d 141 0 [some (.ref 117), some (.int 34)] [] s (.inl none, s10) := dt141 (by omega) hl  hc9
        refine Q.callV (gC_vi zm145 (show zM145.2.2.2.2.2[24]? = some (46, 3, .invokevirtual 72, [0, 141, 1, 8]) from rfl) zm141 (hl.lt (a := 117) (by decide)) (hl.T (a := 117) (p := (8, 11)) 39 rfl rfl) rfl (show aCr 1 117 [.int 34, .ref 117] 2 = some ([some (.ref 117), some (.int 34)], []) from rfl)) hq8 ?_
        have hr11 : aK s10 b2 3 := hq8.2.1.k hr3
        cases h
        exact Q.ret (A.rv zm145 (show zM145.2.2.2.2.2[25]? = some (49, 1, .return_, []) from rfl) rfl) hq8.1
      · rw [if_neg hc7] at h
        refine Q.map (A.bF (gI_of zm145 (e := (19, 3, .if_icmp .ge 24, [22])) rfl) (fun q => hc7 (of_decide_eq_true q))) ?_
        refine Q.run zm145 2 (i' := 14) (ls' := [some (.ref 117), some (.int x1), some (.int x2)]) (st' := [.ref 117, .ref 117]) rfl ?_
        rcases vN_so h with ⟨hv12, h⟩ | ⟨b13, hv12, h⟩
        · refine Q.map (A.gf (gI_of zm145 (e := (24, 3, .getfield 26, [8, 5])) rfl) (hl.lt (a := 117) (by decide)) (hl.T (a := 117) (p := (8, 11)) 39 rfl rfl) (by decide) hv12) ?_
          refine Q.run zm145 2 (i' := 17) (ls' := [some (.ref 117), some (.int x1), some (.int x2)]) (st' := [.int x2, .int x1, .null, .ref 117]) rfl ?_
          cases h
        · obtain ⟨hr14, h⟩ := ite_so h
          refine Q.map (A.gf (gI_of zm145 (e := (24, 3, .getfield 26, [8, 5])) rfl) (hl.lt (a := 117) (by decide)) (hl.T (a := 117) (p := (8, 11)) 39 rfl rfl) (by decide) hv12) ?_
          refine Q.run zm145 2 (i' := 17) (ls' := [some (.ref 117), some (.int x1), some (.int x2)]) (st' := [.int x2, .int x1, .ref b13, .ref 117]) rfl ?_
          obtain ⟨r17, hc16, h⟩ := bu_so h
          have hq15 : Q 1 sio tt cc d 144 0 [some (.ref b13), some (.int x1), some (.int x2), none] [] s (.inl (some (.int r17)), s) := dt144 (by omega) hl hr14 hc16
          refine Q.callI (gC_vi zm145 (show zM145.2.2.2.2.2[17]? = some (29, 3, .invokevirtual 142, [0, 144, 2, 3]) from rfl) zm144 hr14.1 (hl.tr hr14).1 rfl (show aCr 2 b13 [.int x2, .int x1, .ref b13, .ref 117] 4 = some ([some (.ref b13), some (.int x1), some (.int x2), none], [.ref 117]) from rfl)) hq15 ?_
          refine Q.run zm145 1 (i' := 19) (ls' := [some (.ref 117), some (.int x1), some (.int x2)]) (st' := [.int 34, .int r17, .ref 117]) rfl ?_
          obtain ⟨s20, hc19, h⟩ := bu_so h
          have hq18 : Q 1 sio tt cc d 146 0 [some (.ref 117), some (.int r17), some (.int 34)] [] s (.inl none, s20) := dt146 (by omega) hl  hc19
          refine Q.callV (gC_vi zm145 (show zM145.2.2.2.2.2[19]? = some (34, 3, .invokevirtual 145, [0, 146, 2, 8]) from rfl) zm146 (hl.lt (a := 117) (by decide)) (hl.T (a := 117) (p := (8, 11)) 39 rfl rfl) rfl (show aCr 2 117 [.int 34, .int r17, .ref 117] 3 = some ([some (.ref 117), some (.int r17), some (.int 34)], []) from rfl)) hq18 ?_
          have hr21 : aK s20 b2 3 := hq18.2.1.k hr3
          have hr22 : aK s20 b13 3 := hq18.2.1.k hr14
          refine Q.run zm145 2 (i' := 5) (ls' := [some (.ref 117), some (.int x1), some (.int (x2 + 1))]) (st' := []) rfl ?_
          exact ih hq18.1  h
def dm145 (x1 : Int32) (s : aS) : Option (aS) :=
  bu (dm141 34 s) fun s3 =>
  dm145_5 5000 x1 0 s3
set_option maxRecDepth 100000 in
theorem dt145 {sio : Bool} {tt : Nat} {cc : Nat → Nat → Int32} {d : Nat} (hd : 2 ≤ d) {x1 : Int32} {s : aS} (hl : Ly tt cc s) {o : aS} (h : dm145  x1 s = some o) : Q 1 sio tt cc d 145 0 [some (.ref 117), some (.int x1), none] [] s (.inl none, o) := by
  unfold dm145 at h
  obtain ⟨d, rfl⟩ : ∃ e, d = e + 1 := ⟨d - 1, by omega⟩
  refine Q.run zm145 2 (i' := 2) (ls' := [some (.ref 117), some (.int x1), none]) (st' := [.int 34, .ref 117]) rfl ?_
  obtain ⟨s3, hc2, h⟩ := bu_so h
  have hq1 : Q 1 sio tt cc d 141 0 [some (.ref 117), some (.int 34)] [] s (.inl none, s3) := dt141 (by omega) hl  hc2
  refine Q.callV (gC_vi zm145 (show zM145.2.2.2.2.2[2]? = some (3, 3, .invokevirtual 72, [0, 141, 1, 8]) from rfl) zm141 (hl.lt (a := 117) (by decide)) (hl.T (a := 117) (p := (8, 11)) 39 rfl rfl) rfl (show aCr 1 117 [.int 34, .ref 117] 2 = some ([some (.ref 117), some (.int 34)], []) from rfl)) hq1 ?_
  refine Q.run zm145 2 (i' := 5) (ls' := [some (.ref 117), some (.int x1), some (.int 0)]) (st' := []) rfl ?_
  exact dt145_5 hd _ hq1.1  h
/-! 147 FormulaTrees$Writer.writeAll(Ljava/lang/String;)V -/
set_option maxRecDepth 100000 in
theorem zm147 : zP[147]? = some zM147 := rfl
def dm147_2 : Nat → Nat → Int32 → aS → Option (aS)
  | 0, _, _, _ => none
  | n + 1, b1, x2, s =>
    bu (dm254 b1 s) fun r3 =>
    if r3 ≤ x2 then
      some s
    else
      bv (dm259 b1 x2 s) fun r8 s7 =>
      bu (dm141 r8 s7) fun s12 =>
      dm147_2 n b1 (x2 + 1) s12
set_option maxRecDepth 100000 in
theorem dt147_2 {sio : Bool} {tt : Nat} {cc : Nat → Nat → Int32} {d : Nat} (hd : 4 ≤ d) : ∀ (n : Nat) {b1 : Nat} {x2 : Int32} {s : aS} (_ : Ly tt cc s) (_ : aK s b1 70) {o : aS} (_ : dm147_2  n b1 x2 s = some o), Q 1 sio tt cc d 147 2 [some (.ref 117), some (.ref b1), some (.int x2)] [] s (.inl none, o) := by
  obtain ⟨d, rfl⟩ : ∃ e, d = e + 1 := ⟨d - 1, by omega⟩
  intro n
  induction n with
  | zero => intro b1 x2 s hl hk_b1 o h; rw [dm147_2] at h; cases h
  | succ n ih =>
    intro b1 x2 s hl hk_b1 o h
    rw [dm147_2] at h
    refine Q.run zm147 2 (i' := 4) (ls' := [some (.ref 117), some (.ref b1), some (.int x2)]) (st' := [.ref b1, .int x2]) rfl ?_
    obtain ⟨r3, hc2, h⟩ := bu_so h
    have hq1 : Q 1 sio tt cc d 254 0 [some (.ref b1)] [] s (.inl (some (.int r3)), s) := dt254 (by omega) hl hk_b1 hc2
    refine Q.callI (gC_vi zm147 (show zM147.2.2.2.2.2[4]? = some (4, 3, .invokevirtual 62, [0, 254, 0, 70]) from rfl) zm254 hk_b1.1 (hl.tx hk_b1).1 rfl (show aCr 0 b1 [.ref b1, .int x2] 1 = some ([some (.ref b1)], [.int x2]) from rfl)) hq1 ?_
    by_cases hc4 : r3 ≤ x2
    · rw [if_pos hc4] at h
      refine Q.map (A.bT (gI_of zm147 (e := (7, 3, .if_icmp .ge 18, [13])) rfl) (decide_eq_true hc4)) ?_
      cases h
      exact Q.ret (A.rv zm147 (show zM147.2.2.2.2.2[13]? = some (25, 1, .return_, []) from rfl) rfl) hl
    · rw [if_neg hc4] at h
      refine Q.map (A.bF (gI_of zm147 (e := (7, 3, .if_icmp .ge 18, [13])) rfl) (fun q => hc4 (of_decide_eq_true q))) ?_
      refine Q.run zm147 3 (i' := 9) (ls' := [some (.ref 117), some (.ref b1), some (.int x2)]) (st' := [.int x2, .ref b1, .ref 117]) rfl ?_
      obtain ⟨r8, s7, hc6, h⟩ := bv_so h
      have hq5 : Q 1 sio tt cc d 259 0 [some (.ref b1), some (.int x2)] [] s (.inl (some (.int r8)), s7) := dt259 (by omega) hl hk_b1 hc6
      refine Q.callI (gC_vi zm147 (show zM147.2.2.2.2.2[9]? = some (13, 3, .invokevirtual 68, [0, 259, 1, 70]) from rfl) zm259 hk_b1.1 (hl.tx hk_b1).1 rfl (show aCr 1 b1 [.int x2, .ref b1, .ref 117] 2 = some ([some (.ref b1), some (.int x2)], [.ref 117]) from rfl)) hq5 ?_
      have hr9 : aK s7 b1 70 := hq5.2.1.k hk_b1
      obtain ⟨s12, hc11, h⟩ := bu_so h
      have hq10 : Q 1 sio tt cc d 141 0 [some (.ref 117), some (.int r8)] [] s7 (.inl none, s12) := dt141 (by omega) hq5.1  hc11
      refine Q.callV (gC_vi zm147 (show zM147.2.2.2.2.2[10]? = some (16, 3, .invokevirtual 72, [0, 141, 1, 8]) from rfl) zm141 (hq5.1.lt (a := 117) (by decide)) (hq5.1.T (a := 117) (p := (8, 11)) 39 rfl rfl) rfl (show aCr 1 117 [.int r8, .ref 117] 2 = some ([some (.ref 117), some (.int r8)], []) from rfl)) hq10 ?_
      have hr13 : aK s12 b1 70 := hq10.2.1.k hr9
      refine Q.run zm147 2 (i' := 2) (ls' := [some (.ref 117), some (.ref b1), some (.int (x2 + 1))]) (st' := []) rfl ?_
      exact ih hq10.1 hr13 h
def dm147 (b1 : Nat) (s : aS) : Option (aS) :=
  dm147_2 5000 b1 0 s
set_option maxRecDepth 100000 in
theorem dt147 {sio : Bool} {tt : Nat} {cc : Nat → Nat → Int32} {d : Nat} (hd : 4 ≤ d) {b1 : Nat} {s : aS} (hl : Ly tt cc s) (hk_b1 : aK s b1 70) {o : aS} (h : dm147  b1 s = some o) : Q 1 sio tt cc d 147 0 [some (.ref 117), some (.ref b1), none] [] s (.inl none, o) := by
  unfold dm147 at h
  obtain ⟨d, rfl⟩ : ∃ e, d = e + 1 := ⟨d - 1, by omega⟩
  refine Q.run zm147 2 (i' := 2) (ls' := [some (.ref 117), some (.ref b1), some (.int 0)]) (st' := []) rfl ?_
  exact dt147_2 hd _ hl hk_b1 h
/-! 150 FormulaTrees$Sheets.isQuoted(I)Z -/
set_option maxRecDepth 100000 in
theorem zm150 : zP[150]? = some zM150 := rfl
def dm150 (x1 : Int32) (s : aS) : Option (Int32) :=
  bu (dm40 x1 s) fun r3 =>
  if r3 = 0 then
    some 0
  else
    if aB x1 8 then
      if (sI s 83 (jN x1)) = 0 then
        some 0
      else
        some 1
    else none
set_option maxRecDepth 100000 in
theorem dt150 {sio : Bool} {tt : Nat} {cc : Nat → Nat → Int32} {d : Nat} (hd : 1 ≤ d) {x1 : Int32} {s : aS} (hl : Ly tt cc s) {o : Int32} (h : dm150  x1 s = some o) : Q 1 sio tt cc d 150 0 [some (.ref 81), some (.int x1)] [] s (.inl (some (.int o)), s) := by
  unfold dm150 at h
  obtain ⟨d, rfl⟩ : ∃ e, d = e + 1 := ⟨d - 1, by omega⟩
  refine Q.run zm150 2 (i' := 2) (ls' := [some (.ref 81), some (.int x1)]) (st' := [.int x1, .ref 81]) rfl ?_
  obtain ⟨r3, hc2, h⟩ := bu_so h
  have hq1 : Q 1 sio tt cc d 40 0 [some (.ref 81), some (.int x1)] [] s (.inl (some (.int r3)), s) := dt40 (by omega) hl  hc2
  refine Q.callI (gC_vi zm150 (show zM150.2.2.2.2.2[2]? = some (2, 3, .invokevirtual 28, [0, 40, 1, 2]) from rfl) zm40 (hl.lt (a := 81) (by decide)) (hl.T (a := 81) (p := (2, 3)) 3 rfl rfl) rfl (show aCr 1 81 [.int x1, .ref 81] 2 = some ([some (.ref 81), some (.int x1)], []) from rfl)) hq1 ?_
  by_cases hc4 : r3 = 0
  · rw [if_pos hc4] at h
    refine Q.map (A.zT (gI_of zm150 (e := (5, 3, .ifCond .eq 16, [11])) rfl) (decide_eq_true hc4)) ?_
    refine Q.run zm150 1 (i' := 12) (ls' := [some (.ref 81), some (.int x1)]) (st' := [.int 0]) rfl ?_
    cases h
    exact Q.ret (A.ri zm150 (show zM150.2.2.2.2.2[12]? = some (22, 1, .ireturn, []) from rfl) rfl rfl) hl
  · rw [if_neg hc4] at h
    refine Q.map (A.zF (gI_of zm150 (e := (5, 3, .ifCond .eq 16, [11])) rfl) (fun q => hc4 (of_decide_eq_true q))) ?_
    refine Q.run zm150 1 (i' := 5) (ls' := [some (.ref 81), some (.int x1)]) (st' := [.ref 81]) rfl ?_
    refine Q.map (A.gf (gI_of zm150 (e := (9, 3, .getfield 17, [2, 1])) rfl) (hl.lt (a := 81) (by decide)) (hl.T (a := 81) (p := (2, 3)) 3 rfl rfl) (by decide) (hl.R 7 rfl)) ?_
    refine Q.run zm150 1 (i' := 7) (ls' := [some (.ref 81), some (.int x1)]) (st' := [.int x1, .ref 83]) rfl ?_
    obtain ⟨hc5, h⟩ := ite_so h
    refine Q.map (A.ba (gI_of zm150 (e := (13, 1, .baload, [])) rfl) (hl.lt (a := 83) (by decide)) (hl.T (a := 83) (p := (103, 8)) 5 rfl rfl) (by decide) hc5) ?_
    by_cases hc6 : (sI s 83 (jN x1)) = 0
    · rw [if_pos hc6] at h
      refine Q.map (A.zT (gI_of zm150 (e := (14, 3, .ifCond .eq 7, [11])) rfl) (decide_eq_true hc6)) ?_
      refine Q.run zm150 1 (i' := 12) (ls' := [some (.ref 81), some (.int x1)]) (st' := [.int 0]) rfl ?_
      cases h
      exact Q.ret (A.ri zm150 (show zM150.2.2.2.2.2[12]? = some (22, 1, .ireturn, []) from rfl) rfl rfl) hl
    · rw [if_neg hc6] at h
      refine Q.map (A.zF (gI_of zm150 (e := (14, 3, .ifCond .eq 7, [11])) rfl) (fun q => hc6 (of_decide_eq_true q))) ?_
      refine Q.run zm150 2 (i' := 12) (ls' := [some (.ref 81), some (.int x1)]) (st' := [.int 1]) rfl ?_
      cases h
      exact Q.ret (A.ri zm150 (show zM150.2.2.2.2.2[12]? = some (22, 1, .ireturn, []) from rfl) rfl rfl) hl
/-! 151 FormulaTrees$Sheets.nameLetter(II)I -/
set_option maxRecDepth 100000 in
theorem zm151 : zP[151]? = some zM151 := rfl
def dm151 (x1 : Int32) (x2 : Int32) (s : aS) : Option (Int32) :=
  bu (dm40 x1 s) fun r3 =>
  if r3 = 0 then
    some (-1)
  else
    if aB x1 8 then
      bu (dm34 (84 + 2 * jN x1) x2 s) fun r10 =>
      some r10
    else none
set_option maxRecDepth 100000 in
theorem dt151 {sio : Bool} {tt : Nat} {cc : Nat → Nat → Int32} {d : Nat} (hd : 1 ≤ d) {x1 : Int32} {x2 : Int32} {s : aS} (hl : Ly tt cc s) {o : Int32} (h : dm151  x1 x2 s = some o) : Q 1 sio tt cc d 151 0 [some (.ref 81), some (.int x1), some (.int x2)] [] s (.inl (some (.int o)), s) := by
  unfold dm151 at h
  obtain ⟨d, rfl⟩ : ∃ e, d = e + 1 := ⟨d - 1, by omega⟩
  refine Q.run zm151 2 (i' := 2) (ls' := [some (.ref 81), some (.int x1), some (.int x2)]) (st' := [.int x1, .ref 81]) rfl ?_
  obtain ⟨r3, hc2, h⟩ := bu_so h
  have hq1 : Q 1 sio tt cc d 40 0 [some (.ref 81), some (.int x1)] [] s (.inl (some (.int r3)), s) := dt40 (by omega) hl  hc2
  refine Q.callI (gC_vi zm151 (show zM151.2.2.2.2.2[2]? = some (2, 3, .invokevirtual 28, [0, 40, 1, 2]) from rfl) zm40 (hl.lt (a := 81) (by decide)) (hl.T (a := 81) (p := (2, 3)) 3 rfl rfl) rfl (show aCr 1 81 [.int x1, .ref 81] 2 = some ([some (.ref 81), some (.int x1)], []) from rfl)) hq1 ?_
  by_cases hc4 : r3 = 0
  · rw [if_pos hc4] at h
    refine Q.map (A.zT (gI_of zm151 (e := (5, 3, .ifCond .eq 16, [11])) rfl) (decide_eq_true hc4)) ?_
    refine Q.run zm151 1 (i' := 12) (ls' := [some (.ref 81), some (.int x1), some (.int x2)]) (st' := [.int (-1)]) rfl ?_
    cases h
    exact Q.ret (A.ri zm151 (show zM151.2.2.2.2.2[12]? = some (22, 1, .ireturn, []) from rfl) rfl rfl) hl
  · rw [if_neg hc4] at h
    refine Q.map (A.zF (gI_of zm151 (e := (5, 3, .ifCond .eq 16, [11])) rfl) (fun q => hc4 (of_decide_eq_true q))) ?_
    refine Q.run zm151 1 (i' := 5) (ls' := [some (.ref 81), some (.int x1), some (.int x2)]) (st' := [.ref 81]) rfl ?_
    refine Q.map (A.gf (gI_of zm151 (e := (9, 3, .getfield 11, [2, 0])) rfl) (hl.lt (a := 81) (by decide)) (hl.T (a := 81) (p := (2, 3)) 3 rfl rfl) (by decide) (hl.R 6 rfl)) ?_
    refine Q.run zm151 1 (i' := 7) (ls' := [some (.ref 81), some (.int x1), some (.int x2)]) (st' := [.int x1, .ref 82]) rfl ?_
    obtain ⟨hc5, h⟩ := ite_so h
    have hn6 := lay_names hl hc5.2
    refine Q.map (A.aa (gI_of zm151 (e := (13, 1, .aaload, [])) rfl) (hl.lt (a := 82) (by decide)) (hl.T (a := 82) (p := (111, 8)) 4 rfl rfl) (by decide) hc5 hn6.2) ?_
    have hr7 := hn6.1
    refine Q.run zm151 1 (i' := 9) (ls' := [some (.ref 81), some (.int x1), some (.int x2)]) (st' := [.int x2, .ref (84 + 2 * jN x1)]) rfl ?_
    obtain ⟨r10, hc9, h⟩ := bu_so h
    have hq8 : Q 1 sio tt cc d 34 0 [some (.ref (84 + 2 * jN x1)), some (.int x2)] [] s (.inl (some (.int r10)), s) := dt34 (by omega) hl hr7 hc9
    refine Q.callI (gC_vi zm151 (show zM151.2.2.2.2.2[9]? = some (15, 3, .invokevirtual 32, [0, 34, 1, 1]) from rfl) zm34 hr7.1 (hl.le hr7).1 rfl (show aCr 1 (84 + 2 * jN x1) [.int x2, .ref (84 + 2 * jN x1)] 2 = some ([some (.ref (84 + 2 * jN x1)), some (.int x2)], []) from rfl)) hq8 ?_
    refine Q.run zm151 1 (i' := 12) (ls' := [some (.ref 81), some (.int x1), some (.int x2)]) (st' := [.int r10]) rfl ?_
    cases h
    exact Q.ret (A.ri zm151 (show zM151.2.2.2.2.2[12]? = some (22, 1, .ireturn, []) from rfl) rfl rfl) hl
/-! 149 FormulaTrees$Writer.writePrefix(I)V -/
set_option maxRecDepth 100000 in
theorem zm149 : zP[149]? = some zM149 := rfl
def dm149_37 (s : aS) : Option (aS) :=
  bu (dm141 33 s) fun s3 =>
  some s3
set_option maxRecDepth 100000 in
theorem dt149_37 {sio : Bool} {tt : Nat} {cc : Nat → Nat → Int32} {d : Nat} (hd : 2 ≤ d) {x1 : Int32} {x2 : Int32} {x3 : Int32} {s : aS} (hl : Ly tt cc s) {o : aS} (h : dm149_37  s = some o) : Q 1 sio tt cc d 149 37 [some (.ref 117), some (.int x1), some (.int x2), some (.int x3)] [] s (.inl none, o) := by
  unfold dm149_37 at h
  obtain ⟨d, rfl⟩ : ∃ e, d = e + 1 := ⟨d - 1, by omega⟩
  refine Q.run zm149 2 (i' := 39) (ls' := [some (.ref 117), some (.int x1), some (.int x2), some (.int x3)]) (st' := [.int 33, .ref 117]) rfl ?_
  obtain ⟨s3, hc2, h⟩ := bu_so h
  have hq1 : Q 1 sio tt cc d 141 0 [some (.ref 117), some (.int 33)] [] s (.inl none, s3) := dt141 (by omega) hl  hc2
  refine Q.callV (gC_vi zm149 (show zM149.2.2.2.2.2[39]? = some (74, 3, .invokevirtual 72, [0, 141, 1, 8]) from rfl) zm141 (hl.lt (a := 117) (by decide)) (hl.T (a := 117) (p := (8, 11)) 39 rfl rfl) rfl (show aCr 1 117 [.int 33, .ref 117] 2 = some ([some (.ref 117), some (.int 33)], []) from rfl)) hq1 ?_
  cases h
  exact Q.ret (A.rv zm149 (show zM149.2.2.2.2.2[40]? = some (77, 1, .return_, []) from rfl) rfl) hq1.1
def dm149_32 (x2 : Int32) (s : aS) : Option (aS) :=
  if x2 = 0 then
    dm149_37 s
  else
    bu (dm141 39 s) fun s4 =>
    dm149_37 s4
set_option maxRecDepth 100000 in
theorem dt149_32 {sio : Bool} {tt : Nat} {cc : Nat → Nat → Int32} {d : Nat} (hd : 2 ≤ d) {x2 : Int32} {x1 : Int32} {x3 : Int32} {s : aS} (hl : Ly tt cc s) {o : aS} (h : dm149_32  x2 s = some o) : Q 1 sio tt cc d 149 32 [some (.ref 117), some (.int x1), some (.int x2), some (.int x3)] [] s (.inl none, o) := by
  unfold dm149_32 at h
  obtain ⟨d, rfl⟩ : ∃ e, d = e + 1 := ⟨d - 1, by omega⟩
  refine Q.run zm149 1 (i' := 33) (ls' := [some (.ref 117), some (.int x1), some (.int x2), some (.int x3)]) (st' := [.int x2]) rfl ?_
  by_cases hc1 : x2 = 0
  · rw [if_pos hc1] at h
    refine Q.map (A.zT (gI_of zm149 (e := (62, 3, .ifCond .eq 9, [37])) rfl) (decide_eq_true hc1)) ?_
    exact dt149_37 hd hl  h
  · rw [if_neg hc1] at h
    refine Q.map (A.zF (gI_of zm149 (e := (62, 3, .ifCond .eq 9, [37])) rfl) (fun q => hc1 (of_decide_eq_true q))) ?_
    refine Q.run zm149 2 (i' := 36) (ls' := [some (.ref 117), some (.int x1), some (.int x2), some (.int x3)]) (st' := [.int 39, .ref 117]) rfl ?_
    obtain ⟨s4, hc3, h⟩ := bu_so h
    have hq2 : Q 1 sio tt cc d 141 0 [some (.ref 117), some (.int 39)] [] s (.inl none, s4) := dt141 (by omega) hl  hc3
    refine Q.callV (gC_vi zm149 (show zM149.2.2.2.2.2[36]? = some (68, 3, .invokevirtual 72, [0, 141, 1, 8]) from rfl) zm141 (hl.lt (a := 117) (by decide)) (hl.T (a := 117) (p := (8, 11)) 39 rfl rfl) rfl (show aCr 1 117 [.int 39, .ref 117] 2 = some ([some (.ref 117), some (.int 39)], []) from rfl)) hq2 ?_
    exact dt149_37 hd hq2.1  h
def dm149_12 : Nat → Int32 → Int32 → Int32 → aS → Option (aS)
  | 0, _, _, _, _ => none
  | n + 1, x1, x2, x3, s =>
    if 31 ≤ x3 then
      dm149_32 x2 s
    else
      bu (dm151 x1 x3 s) fun r4 =>
      if r4 = (-1) then
        dm149_32 x2 s
      else
        bu (dm151 x1 x3 s) fun r8 =>
        bu (dm146 r8 39 s) fun s11 =>
        dm149_12 n x1 x2 (x3 + 1) s11
set_option maxRecDepth 100000 in
theorem dt149_12 {sio : Bool} {tt : Nat} {cc : Nat → Nat → Int32} {d : Nat} (hd : 2 ≤ d) : ∀ (n : Nat) {x1 : Int32} {x2 : Int32} {x3 : Int32} {s : aS} (_ : Ly tt cc s) {o : aS} (_ : dm149_12  n x1 x2 x3 s = some o), Q 1 sio tt cc d 149 12 [some (.ref 117), some (.int x1), some (.int x2), some (.int x3)] [] s (.inl none, o) := by
  obtain ⟨d, rfl⟩ : ∃ e, d = e + 1 := ⟨d - 1, by omega⟩
  intro n
  induction n with
  | zero => intro x1 x2 x3 s hl o h; rw [dm149_12] at h; cases h
  | succ n ih =>
    intro x1 x2 x3 s hl o h
    rw [dm149_12] at h
    refine Q.run zm149 2 (i' := 14) (ls' := [some (.ref 117), some (.int x1), some (.int x2), some (.int x3)]) (st' := [.int 31, .int x3]) rfl ?_
    by_cases hc1 : 31 ≤ x3
    · rw [if_pos hc1] at h
      refine Q.map (A.bT (gI_of zm149 (e := (24, 3, .if_icmp .ge 37, [32])) rfl) (decide_eq_true hc1)) ?_
      exact dt149_32 hd hl  h
    · rw [if_neg hc1] at h
      refine Q.map (A.bF (gI_of zm149 (e := (24, 3, .if_icmp .ge 37, [32])) rfl) (fun q => hc1 (of_decide_eq_true q))) ?_
      refine Q.run zm149 1 (i' := 16) (ls' := [some (.ref 117), some (.int x1), some (.int x2), some (.int x3)]) (st' := [.ref 117]) rfl ?_
      refine Q.map (A.gf (gI_of zm149 (e := (28, 3, .getfield 22, [8, 0])) rfl) (hl.lt (a := 117) (by decide)) (hl.T (a := 117) (p := (8, 11)) 39 rfl rfl) (by decide) (hl.R 19 rfl)) ?_
      refine Q.run zm149 2 (i' := 19) (ls' := [some (.ref 117), some (.int x1), some (.int x2), some (.int x3)]) (st' := [.int x3, .int x1, .ref 81]) rfl ?_
      obtain ⟨r4, hc3, h⟩ := bu_so h
      have hq2 : Q 1 sio tt cc d 151 0 [some (.ref 81), some (.int x1), some (.int x3)] [] s (.inl (some (.int r4)), s) := dt151 (by omega) hl  hc3
      refine Q.callI (gC_vi zm149 (show zM149.2.2.2.2.2[19]? = some (33, 3, .invokevirtual 161, [0, 151, 2, 2]) from rfl) zm151 (hl.lt (a := 81) (by decide)) (hl.T (a := 81) (p := (2, 3)) 3 rfl rfl) rfl (show aCr 2 81 [.int x3, .int x1, .ref 81] 3 = some ([some (.ref 81), some (.int x1), some (.int x3)], []) from rfl)) hq2 ?_
      refine Q.run zm149 1 (i' := 21) (ls' := [some (.ref 117), some (.int x1), some (.int x2), some (.int x3)]) (st' := [.int (-1), .int r4]) rfl ?_
      by_cases hc5 : r4 = (-1)
      · rw [if_pos hc5] at h
        refine Q.map (A.bT (gI_of zm149 (e := (37, 3, .if_icmp .eq 24, [32])) rfl) (decide_eq_true hc5)) ?_
        exact dt149_32 hd hl  h
      · rw [if_neg hc5] at h
        refine Q.map (A.bF (gI_of zm149 (e := (37, 3, .if_icmp .eq 24, [32])) rfl) (fun q => hc5 (of_decide_eq_true q))) ?_
        refine Q.run zm149 2 (i' := 24) (ls' := [some (.ref 117), some (.int x1), some (.int x2), some (.int x3)]) (st' := [.ref 117, .ref 117]) rfl ?_
        refine Q.map (A.gf (gI_of zm149 (e := (42, 3, .getfield 22, [8, 0])) rfl) (hl.lt (a := 117) (by decide)) (hl.T (a := 117) (p := (8, 11)) 39 rfl rfl) (by decide) (hl.R 19 rfl)) ?_
        refine Q.run zm149 2 (i' := 27) (ls' := [some (.ref 117), some (.int x1), some (.int x2), some (.int x3)]) (st' := [.int x3, .int x1, .ref 81, .ref 117]) rfl ?_
        obtain ⟨r8, hc7, h⟩ := bu_so h
        have hq6 : Q 1 sio tt cc d 151 0 [some (.ref 81), some (.int x1), some (.int x3)] [] s (.inl (some (.int r8)), s) := dt151 (by omega) hl  hc7
        refine Q.callI (gC_vi zm149 (show zM149.2.2.2.2.2[27]? = some (47, 3, .invokevirtual 161, [0, 151, 2, 2]) from rfl) zm151 (hl.lt (a := 81) (by decide)) (hl.T (a := 81) (p := (2, 3)) 3 rfl rfl) rfl (show aCr 2 81 [.int x3, .int x1, .ref 81, .ref 117] 3 = some ([some (.ref 81), some (.int x1), some (.int x3)], [.ref 117]) from rfl)) hq6 ?_
        refine Q.run zm149 1 (i' := 29) (ls' := [some (.ref 117), some (.int x1), some (.int x2), some (.int x3)]) (st' := [.int 39, .int r8, .ref 117]) rfl ?_
        obtain ⟨s11, hc10, h⟩ := bu_so h
        have hq9 : Q 1 sio tt cc d 146 0 [some (.ref 117), some (.int r8), some (.int 39)] [] s (.inl none, s11) := dt146 (by omega) hl  hc10
        refine Q.callV (gC_vi zm149 (show zM149.2.2.2.2.2[29]? = some (52, 3, .invokevirtual 145, [0, 146, 2, 8]) from rfl) zm146 (hl.lt (a := 117) (by decide)) (hl.T (a := 117) (p := (8, 11)) 39 rfl rfl) rfl (show aCr 2 117 [.int 39, .int r8, .ref 117] 3 = some ([some (.ref 117), some (.int r8), some (.int 39)], []) from rfl)) hq9 ?_
        refine Q.run zm149 2 (i' := 12) (ls' := [some (.ref 117), some (.int x1), some (.int x2), some (.int (x3 + 1))]) (st' := []) rfl ?_
        exact ih hq9.1  h
def dm149_10 (x1 : Int32) (x2 : Int32) (s : aS) : Option (aS) :=
  dm149_12 5000 x1 x2 0 s
set_option maxRecDepth 100000 in
theorem dt149_10 {sio : Bool} {tt : Nat} {cc : Nat → Nat → Int32} {d : Nat} (hd : 2 ≤ d) {x1 : Int32} {x2 : Int32} {s : aS} (hl : Ly tt cc s) {o : aS} (h : dm149_10  x1 x2 s = some o) : Q 1 sio tt cc d 149 10 [some (.ref 117), some (.int x1), some (.int x2), none] [] s (.inl none, o) := by
  unfold dm149_10 at h
  obtain ⟨d, rfl⟩ : ∃ e, d = e + 1 := ⟨d - 1, by omega⟩
  refine Q.run zm149 2 (i' := 12) (ls' := [some (.ref 117), some (.int x1), some (.int x2), some (.int 0)]) (st' := []) rfl ?_
  exact dt149_12 hd _ hl  h
def dm149 (x1 : Int32) (s : aS) : Option (aS) :=
  bu (dm150 x1 s) fun r3 =>
  if r3 = 0 then
    dm149_10 x1 r3 s
  else
    bu (dm141 39 s) fun s7 =>
    dm149_10 x1 r3 s7
set_option maxRecDepth 100000 in
theorem dt149 {sio : Bool} {tt : Nat} {cc : Nat → Nat → Int32} {d : Nat} (hd : 2 ≤ d) {x1 : Int32} {s : aS} (hl : Ly tt cc s) {o : aS} (h : dm149  x1 s = some o) : Q 1 sio tt cc d 149 0 [some (.ref 117), some (.int x1), none, none] [] s (.inl none, o) := by
  unfold dm149 at h
  obtain ⟨d, rfl⟩ : ∃ e, d = e + 1 := ⟨d - 1, by omega⟩
  refine Q.run zm149 1 (i' := 1) (ls' := [some (.ref 117), some (.int x1), none, none]) (st' := [.ref 117]) rfl ?_
  refine Q.map (A.gf (gI_of zm149 (e := (1, 3, .getfield 22, [8, 0])) rfl) (hl.lt (a := 117) (by decide)) (hl.T (a := 117) (p := (8, 11)) 39 rfl rfl) (by decide) (hl.R 19 rfl)) ?_
  refine Q.run zm149 1 (i' := 3) (ls' := [some (.ref 117), some (.int x1), none, none]) (st' := [.int x1, .ref 81]) rfl ?_
  obtain ⟨r3, hc2, h⟩ := bu_so h
  have hq1 : Q 1 sio tt cc d 150 0 [some (.ref 81), some (.int x1)] [] s (.inl (some (.int r3)), s) := dt150 (by omega) hl  hc2
  refine Q.callI (gC_vi zm149 (show zM149.2.2.2.2.2[3]? = some (5, 3, .invokevirtual 155, [0, 150, 1, 2]) from rfl) zm150 (hl.lt (a := 81) (by decide)) (hl.T (a := 81) (p := (2, 3)) 3 rfl rfl) rfl (show aCr 1 81 [.int x1, .ref 81] 2 = some ([some (.ref 81), some (.int x1)], []) from rfl)) hq1 ?_
  refine Q.run zm149 2 (i' := 6) (ls' := [some (.ref 117), some (.int x1), some (.int r3), none]) (st' := [.int r3]) rfl ?_
  by_cases hc4 : r3 = 0
  · rw [if_pos hc4] at h
    refine Q.map (A.zT (gI_of zm149 (e := (10, 3, .ifCond .eq 9, [10])) rfl) (decide_eq_true hc4)) ?_
    exact dt149_10 hd hl  h
  · rw [if_neg hc4] at h
    refine Q.map (A.zF (gI_of zm149 (e := (10, 3, .ifCond .eq 9, [10])) rfl) (fun q => hc4 (of_decide_eq_true q))) ?_
    refine Q.run zm149 2 (i' := 9) (ls' := [some (.ref 117), some (.int x1), some (.int r3), none]) (st' := [.int 39, .ref 117]) rfl ?_
    obtain ⟨s7, hc6, h⟩ := bu_so h
    have hq5 : Q 1 sio tt cc d 141 0 [some (.ref 117), some (.int 39)] [] s (.inl none, s7) := dt141 (by omega) hl  hc6
    refine Q.callV (gC_vi zm149 (show zM149.2.2.2.2.2[9]? = some (16, 3, .invokevirtual 72, [0, 141, 1, 8]) from rfl) zm141 (hl.lt (a := 117) (by decide)) (hl.T (a := 117) (p := (8, 11)) 39 rfl rfl) rfl (show aCr 1 117 [.int 39, .ref 117] 2 = some ([some (.ref 117), some (.int 39)], []) from rfl)) hq5 ?_
    exact dt149_10 hd hq5.1  h
/-! 153 FormulaTrees$Writer.writeColumn(I)V -/
set_option maxRecDepth 100000 in
theorem zm153 : zP[153]? = some zM153 := rfl
def dm153_32 (x2 : Int32) (s : aS) : Option (aS) :=
  bu (dm141 (65 + (x2 - x2 / 26 * 26)) s) fun s3 =>
  some s3
set_option maxRecDepth 100000 in
theorem dt153_32 {sio : Bool} {tt : Nat} {cc : Nat → Nat → Int32} {d : Nat} (hd : 1 ≤ d) {x2 : Int32} {x1 : Int32} {s : aS} (hl : Ly tt cc s) {o : aS} (h : dm153_32  x2 s = some o) : Q 1 sio tt cc d 153 32 [some (.ref 117), some (.int x1), some (.int x2)] [] s (.inl none, o) := by
  unfold dm153_32 at h
  obtain ⟨d, rfl⟩ : ∃ e, d = e + 1 := ⟨d - 1, by omega⟩
  refine Q.run zm153 6 (i' := 38) (ls' := [some (.ref 117), some (.int x1), some (.int x2)]) (st' := [.int (65 + (x2 - x2 / 26 * 26)), .ref 117]) rfl ?_
  obtain ⟨s3, hc2, h⟩ := bu_so h
  have hq1 : Q 1 sio tt cc d 141 0 [some (.ref 117), some (.int (65 + (x2 - x2 / 26 * 26)))] [] s (.inl none, s3) := dt141 (by omega) hl  hc2
  refine Q.callV (gC_vi zm153 (show zM153.2.2.2.2.2[38]? = some (61, 3, .invokevirtual 72, [0, 141, 1, 8]) from rfl) zm141 (hl.lt (a := 117) (by decide)) (hl.T (a := 117) (p := (8, 11)) 39 rfl rfl) rfl (show aCr 1 117 [.int (65 + (x2 - x2 / 26 * 26)), .ref 117] 2 = some ([some (.ref 117), some (.int (65 + (x2 - x2 / 26 * 26)))], []) from rfl)) hq1 ?_
  cases h
  exact Q.ret (A.rv zm153 (show zM153.2.2.2.2.2[39]? = some (64, 1, .return_, []) from rfl) rfl) hq1.1
def dm153_18 (x2 : Int32) (s : aS) : Option (aS) :=
  if x2 < 26 then
    dm153_32 x2 s
  else
    bu (dm141 (65 + (((x2 - 26) / 26) - ((x2 - 26) / 26) / 26 * 26)) s) fun s4 =>
    dm153_32 x2 s4
set_option maxRecDepth 100000 in
theorem dt153_18 {sio : Bool} {tt : Nat} {cc : Nat → Nat → Int32} {d : Nat} (hd : 1 ≤ d) {x2 : Int32} {x1 : Int32} {s : aS} (hl : Ly tt cc s) {o : aS} (h : dm153_18  x2 s = some o) : Q 1 sio tt cc d 153 18 [some (.ref 117), some (.int x1), some (.int x2)] [] s (.inl none, o) := by
  unfold dm153_18 at h
  obtain ⟨d, rfl⟩ : ∃ e, d = e + 1 := ⟨d - 1, by omega⟩
  refine Q.run zm153 2 (i' := 20) (ls' := [some (.ref 117), some (.int x1), some (.int x2)]) (st' := [.int 26, .int x2]) rfl ?_
  by_cases hc1 : x2 < 26
  · rw [if_pos hc1] at h
    refine Q.map (A.bT (gI_of zm153 (e := (33, 3, .if_icmp .lt 20, [32])) rfl) (decide_eq_true hc1)) ?_
    exact dt153_32 hd hl  h
  · rw [if_neg hc1] at h
    refine Q.map (A.bF (gI_of zm153 (e := (33, 3, .if_icmp .lt 20, [32])) rfl) (fun q => hc1 (of_decide_eq_true q))) ?_
    refine Q.run zm153 10 (i' := 31) (ls' := [some (.ref 117), some (.int x1), some (.int x2)]) (st' := [.int (65 + (((x2 - 26) / 26) - ((x2 - 26) / 26) / 26 * 26)), .ref 117]) rfl ?_
    obtain ⟨s4, hc3, h⟩ := bu_so h
    have hq2 : Q 1 sio tt cc d 141 0 [some (.ref 117), some (.int (65 + (((x2 - 26) / 26) - ((x2 - 26) / 26) / 26 * 26)))] [] s (.inl none, s4) := dt141 (by omega) hl  hc3
    refine Q.callV (gC_vi zm153 (show zM153.2.2.2.2.2[31]? = some (50, 3, .invokevirtual 72, [0, 141, 1, 8]) from rfl) zm141 (hl.lt (a := 117) (by decide)) (hl.T (a := 117) (p := (8, 11)) 39 rfl rfl) rfl (show aCr 1 117 [.int (65 + (((x2 - 26) / 26) - ((x2 - 26) / 26) / 26 * 26)), .ref 117] 2 = some ([some (.ref 117), some (.int (65 + (((x2 - 26) / 26) - ((x2 - 26) / 26) / 26 * 26)))], []) from rfl)) hq2 ?_
    exact dt153_32 hd hq2.1  h
def dm153 (x1 : Int32) (s : aS) : Option (aS) :=
  if (x1 - 1) < 702 then
    dm153_18 (x1 - 1) s
  else
    bu (dm141 (65 + ((((x1 - 1) - 26) - 676) / 676)) s) fun s4 =>
    dm153_18 (x1 - 1) s4
set_option maxRecDepth 100000 in
theorem dt153 {sio : Bool} {tt : Nat} {cc : Nat → Nat → Int32} {d : Nat} (hd : 1 ≤ d) {x1 : Int32} {s : aS} (hl : Ly tt cc s) {o : aS} (h : dm153  x1 s = some o) : Q 1 sio tt cc d 153 0 [some (.ref 117), some (.int x1), none] [] s (.inl none, o) := by
  unfold dm153 at h
  obtain ⟨d, rfl⟩ : ∃ e, d = e + 1 := ⟨d - 1, by omega⟩
  refine Q.run zm153 6 (i' := 6) (ls' := [some (.ref 117), some (.int x1), some (.int (x1 - 1))]) (st' := [.int 702, .int (x1 - 1)]) rfl ?_
  by_cases hc1 : (x1 - 1) < 702
  · rw [if_pos hc1] at h
    refine Q.map (A.bT (gI_of zm153 (e := (8, 3, .if_icmp .lt 22, [18])) rfl) (decide_eq_true hc1)) ?_
    exact dt153_18 hd hl  h
  · rw [if_neg hc1] at h
    refine Q.map (A.bF (gI_of zm153 (e := (8, 3, .if_icmp .lt 22, [18])) rfl) (fun q => hc1 (of_decide_eq_true q))) ?_
    refine Q.run zm153 10 (i' := 17) (ls' := [some (.ref 117), some (.int x1), some (.int (x1 - 1))]) (st' := [.int (65 + ((((x1 - 1) - 26) - 676) / 676)), .ref 117]) rfl ?_
    obtain ⟨s4, hc3, h⟩ := bu_so h
    have hq2 : Q 1 sio tt cc d 141 0 [some (.ref 117), some (.int (65 + ((((x1 - 1) - 26) - 676) / 676)))] [] s (.inl none, s4) := dt141 (by omega) hl  hc3
    refine Q.callV (gC_vi zm153 (show zM153.2.2.2.2.2[17]? = some (27, 3, .invokevirtual 72, [0, 141, 1, 8]) from rfl) zm141 (hl.lt (a := 117) (by decide)) (hl.T (a := 117) (p := (8, 11)) 39 rfl rfl) rfl (show aCr 1 117 [.int (65 + ((((x1 - 1) - 26) - 676) / 676)), .ref 117] 2 = some ([some (.ref 117), some (.int (65 + ((((x1 - 1) - 26) - 676) / 676)))], []) from rfl)) hq2 ?_
    exact dt153_18 hd hq2.1  h
/-! 154 FormulaTrees$Writer.writeRow(I)V -/
set_option maxRecDepth 100000 in
theorem zm154 : zP[154]? = some zM154 := rfl
def dm154_16 (k2 : Int32 → Int32 → aS → Option (aS)) (x1 : Int32) (x2 : Int32) (s : aS) : Option (aS) :=
  k2 x1 (x2 / 10) s
set_option maxRecDepth 100000 in
theorem dt154_16 {sio : Bool} {tt : Nat} {cc : Nat → Nat → Int32} {d : Nat} (hd : 1 ≤ d) {k2 : Int32 → Int32 → aS → Option (aS)} (hk2 : ∀ {x1 : Int32} {x2 : Int32} {s : aS}, Ly tt cc s → ∀ {o : aS}, k2 x1 x2 s = some o → Q 1 sio tt cc d 154 2 [some (.ref 117), some (.int x1), some (.int x2)] [] s (.inl none, o)) {x1 : Int32} {x2 : Int32} {s : aS} (hl : Ly tt cc s) {o : aS} (h : dm154_16 k2 x1 x2 s = some o) : Q 1 sio tt cc d 154 16 [some (.ref 117), some (.int x1), some (.int x2)] [] s (.inl none, o) := by
  unfold dm154_16 at h
  obtain ⟨d, rfl⟩ : ∃ e, d = e + 1 := ⟨d - 1, by omega⟩
  refine Q.run zm154 5 (i' := 2) (ls' := [some (.ref 117), some (.int x1), some (.int (x2 / 10))]) (st' := []) rfl ?_
  exact hk2 hl  h
def dm154_2 : Nat → Int32 → Int32 → aS → Option (aS)
  | 0, _, _, _ => none
  | n + 1, x1, x2, s =>
    if x2 ≤ 0 then
      some s
    else
      if x1 < x2 then
        dm154_16 (dm154_2 n) x1 x2 s
      else
        if ¬ x2 = 0 then
          bu (dm141 (48 + ((x1 / x2) - (x1 / x2) / 10 * 10)) s) fun s6 =>
          dm154_16 (dm154_2 n) x1 x2 s6
        else none
set_option maxRecDepth 100000 in
theorem dt154_2 {sio : Bool} {tt : Nat} {cc : Nat → Nat → Int32} {d : Nat} (hd : 1 ≤ d) : ∀ (n : Nat) {x1 : Int32} {x2 : Int32} {s : aS} (_ : Ly tt cc s) {o : aS} (_ : dm154_2  n x1 x2 s = some o), Q 1 sio tt cc d 154 2 [some (.ref 117), some (.int x1), some (.int x2)] [] s (.inl none, o) := by
  obtain ⟨d, rfl⟩ : ∃ e, d = e + 1 := ⟨d - 1, by omega⟩
  intro n
  induction n with
  | zero => intro x1 x2 s hl o h; rw [dm154_2] at h; cases h
  | succ n ih =>
    intro x1 x2 s hl o h
    rw [dm154_2] at h
    refine Q.run zm154 1 (i' := 3) (ls' := [some (.ref 117), some (.int x1), some (.int x2)]) (st' := [.int x2]) rfl ?_
    by_cases hc1 : x2 ≤ 0
    · rw [if_pos hc1] at h
      refine Q.map (A.zT (gI_of zm154 (e := (4, 3, .ifCond .le 29, [21])) rfl) (decide_eq_true hc1)) ?_
      cases h
      exact Q.ret (A.rv zm154 (show zM154.2.2.2.2.2[21]? = some (33, 1, .return_, []) from rfl) rfl) hl
    · rw [if_neg hc1] at h
      refine Q.map (A.zF (gI_of zm154 (e := (4, 3, .ifCond .le 29, [21])) rfl) (fun q => hc1 (of_decide_eq_true q))) ?_
      refine Q.run zm154 2 (i' := 6) (ls' := [some (.ref 117), some (.int x1), some (.int x2)]) (st' := [.int x2, .int x1]) rfl ?_
      by_cases hc2 : x1 < x2
      · rw [if_pos hc2] at h
        refine Q.map (A.bT (gI_of zm154 (e := (9, 3, .if_icmp .lt 16, [16])) rfl) (decide_eq_true hc2)) ?_
        exact dt154_16 hd ih hl  h
      · rw [if_neg hc2] at h
        refine Q.map (A.bF (gI_of zm154 (e := (9, 3, .if_icmp .lt 16, [16])) rfl) (fun q => hc2 (of_decide_eq_true q))) ?_
        refine Q.run zm154 4 (i' := 11) (ls' := [some (.ref 117), some (.int x1), some (.int x2)]) (st' := [.int x2, .int x1, .int 48, .ref 117]) rfl ?_
        obtain ⟨hc3, h⟩ := ite_so h
        refine Q.map (A.dv (gI_of zm154 (e := (17, 1, .idiv, [])) rfl) hc3) ?_
        refine Q.run zm154 3 (i' := 15) (ls' := [some (.ref 117), some (.int x1), some (.int x2)]) (st' := [.int (48 + ((x1 / x2) - (x1 / x2) / 10 * 10)), .ref 117]) rfl ?_
        obtain ⟨s6, hc5, h⟩ := bu_so h
        have hq4 : Q 1 sio tt cc d 141 0 [some (.ref 117), some (.int (48 + ((x1 / x2) - (x1 / x2) / 10 * 10)))] [] s (.inl none, s6) := dt141 (by omega) hl  hc5
        refine Q.callV (gC_vi zm154 (show zM154.2.2.2.2.2[15]? = some (22, 3, .invokevirtual 72, [0, 141, 1, 8]) from rfl) zm141 (hl.lt (a := 117) (by decide)) (hl.T (a := 117) (p := (8, 11)) 39 rfl rfl) rfl (show aCr 1 117 [.int (48 + ((x1 / x2) - (x1 / x2) / 10 * 10)), .ref 117] 2 = some ([some (.ref 117), some (.int (48 + ((x1 / x2) - (x1 / x2) / 10 * 10)))], []) from rfl)) hq4 ?_
        exact dt154_16 hd ih hq4.1  h
def dm154 (x1 : Int32) (s : aS) : Option (aS) :=
  dm154_2 5000 x1 1000000 s
set_option maxRecDepth 100000 in
theorem dt154 {sio : Bool} {tt : Nat} {cc : Nat → Nat → Int32} {d : Nat} (hd : 1 ≤ d) {x1 : Int32} {s : aS} (hl : Ly tt cc s) {o : aS} (h : dm154  x1 s = some o) : Q 1 sio tt cc d 154 0 [some (.ref 117), some (.int x1), none] [] s (.inl none, o) := by
  unfold dm154 at h
  obtain ⟨d, rfl⟩ : ∃ e, d = e + 1 := ⟨d - 1, by omega⟩
  refine Q.run zm154 2 (i' := 2) (ls' := [some (.ref 117), some (.int x1), some (.int 1000000)]) (st' := []) rfl ?_
  exact dt154_2 hd _ hl  h
/-! 152 FormulaTrees$Writer.writeCell(III)V -/
set_option maxRecDepth 100000 in
theorem zm152 : zP[152]? = some zM152 := rfl
def dm152_17 (x1 : Int32) (s : aS) : Option (aS) :=
  bu (dm154 x1 s) fun s3 =>
  some s3
set_option maxRecDepth 100000 in
theorem dt152_17 {sio : Bool} {tt : Nat} {cc : Nat → Nat → Int32} {d : Nat} (hd : 2 ≤ d) {x1 : Int32} {x2 : Int32} {x3 : Int32} {s : aS} (hl : Ly tt cc s) {o : aS} (h : dm152_17  x1 s = some o) : Q 1 sio tt cc d 152 17 [some (.ref 117), some (.int x1), some (.int x2), some (.int x3)] [] s (.inl none, o) := by
  unfold dm152_17 at h
  obtain ⟨d, rfl⟩ : ∃ e, d = e + 1 := ⟨d - 1, by omega⟩
  refine Q.run zm152 2 (i' := 19) (ls' := [some (.ref 117), some (.int x1), some (.int x2), some (.int x3)]) (st' := [.int x1, .ref 117]) rfl ?_
  obtain ⟨s3, hc2, h⟩ := bu_so h
  have hq1 : Q 1 sio tt cc d 154 0 [some (.ref 117), some (.int x1), none] [] s (.inl none, s3) := dt154 (by omega) hl  hc2
  refine Q.callV (gC_vi zm152 (show zM152.2.2.2.2.2[19]? = some (31, 3, .invokevirtual 167, [0, 154, 1, 8]) from rfl) zm154 (hl.lt (a := 117) (by decide)) (hl.T (a := 117) (p := (8, 11)) 39 rfl rfl) rfl (show aCr 1 117 [.int x1, .ref 117] 3 = some ([some (.ref 117), some (.int x1), none], []) from rfl)) hq1 ?_
  cases h
  exact Q.ret (A.rv zm152 (show zM152.2.2.2.2.2[20]? = some (34, 1, .return_, []) from rfl) rfl) hq1.1
def dm152_7 (x1 : Int32) (x2 : Int32) (x3 : Int32) (s : aS) : Option (aS) :=
  bu (dm153 x2 s) fun s3 =>
  if (x3 &&& 1) = 0 then
    dm152_17 x1 s3
  else
    bu (dm141 36 s3) fun s7 =>
    dm152_17 x1 s7
set_option maxRecDepth 100000 in
theorem dt152_7 {sio : Bool} {tt : Nat} {cc : Nat → Nat → Int32} {d : Nat} (hd : 2 ≤ d) {x1 : Int32} {x2 : Int32} {x3 : Int32} {s : aS} (hl : Ly tt cc s) {o : aS} (h : dm152_7  x1 x2 x3 s = some o) : Q 1 sio tt cc d 152 7 [some (.ref 117), some (.int x1), some (.int x2), some (.int x3)] [] s (.inl none, o) := by
  unfold dm152_7 at h
  obtain ⟨d, rfl⟩ : ∃ e, d = e + 1 := ⟨d - 1, by omega⟩
  refine Q.run zm152 2 (i' := 9) (ls' := [some (.ref 117), some (.int x1), some (.int x2), some (.int x3)]) (st' := [.int x2, .ref 117]) rfl ?_
  obtain ⟨s3, hc2, h⟩ := bu_so h
  have hq1 : Q 1 sio tt cc d 153 0 [some (.ref 117), some (.int x2), none] [] s (.inl none, s3) := dt153 (by omega) hl  hc2
  refine Q.callV (gC_vi zm152 (show zM152.2.2.2.2.2[9]? = some (14, 3, .invokevirtual 164, [0, 153, 1, 8]) from rfl) zm153 (hl.lt (a := 117) (by decide)) (hl.T (a := 117) (p := (8, 11)) 39 rfl rfl) rfl (show aCr 1 117 [.int x2, .ref 117] 3 = some ([some (.ref 117), some (.int x2), none], []) from rfl)) hq1 ?_
  refine Q.run zm152 3 (i' := 13) (ls' := [some (.ref 117), some (.int x1), some (.int x2), some (.int x3)]) (st' := [.int (x3 &&& 1)]) rfl ?_
  by_cases hc4 : (x3 &&& 1) = 0
  · rw [if_pos hc4] at h
    refine Q.map (A.zT (gI_of zm152 (e := (20, 3, .ifCond .eq 9, [17])) rfl) (decide_eq_true hc4)) ?_
    exact dt152_17 hd hq1.1  h
  · rw [if_neg hc4] at h
    refine Q.map (A.zF (gI_of zm152 (e := (20, 3, .ifCond .eq 9, [17])) rfl) (fun q => hc4 (of_decide_eq_true q))) ?_
    refine Q.run zm152 2 (i' := 16) (ls' := [some (.ref 117), some (.int x1), some (.int x2), some (.int x3)]) (st' := [.int 36, .ref 117]) rfl ?_
    obtain ⟨s7, hc6, h⟩ := bu_so h
    have hq5 : Q 1 sio tt cc d 141 0 [some (.ref 117), some (.int 36)] [] s3 (.inl none, s7) := dt141 (by omega) hq1.1  hc6
    refine Q.callV (gC_vi zm152 (show zM152.2.2.2.2.2[16]? = some (26, 3, .invokevirtual 72, [0, 141, 1, 8]) from rfl) zm141 (hq1.1.lt (a := 117) (by decide)) (hq1.1.T (a := 117) (p := (8, 11)) 39 rfl rfl) rfl (show aCr 1 117 [.int 36, .ref 117] 2 = some ([some (.ref 117), some (.int 36)], []) from rfl)) hq5 ?_
    exact dt152_17 hd hq5.1  h
def dm152 (x1 : Int32) (x2 : Int32) (x3 : Int32) (s : aS) : Option (aS) :=
  if (x3 &&& 2) = 0 then
    dm152_7 x1 x2 x3 s
  else
    bu (dm141 36 s) fun s4 =>
    dm152_7 x1 x2 x3 s4
set_option maxRecDepth 100000 in
theorem dt152 {sio : Bool} {tt : Nat} {cc : Nat → Nat → Int32} {d : Nat} (hd : 2 ≤ d) {x1 : Int32} {x2 : Int32} {x3 : Int32} {s : aS} (hl : Ly tt cc s) {o : aS} (h : dm152  x1 x2 x3 s = some o) : Q 1 sio tt cc d 152 0 [some (.ref 117), some (.int x1), some (.int x2), some (.int x3)] [] s (.inl none, o) := by
  unfold dm152 at h
  obtain ⟨d, rfl⟩ : ∃ e, d = e + 1 := ⟨d - 1, by omega⟩
  refine Q.run zm152 3 (i' := 3) (ls' := [some (.ref 117), some (.int x1), some (.int x2), some (.int x3)]) (st' := [.int (x3 &&& 2)]) rfl ?_
  by_cases hc1 : (x3 &&& 2) = 0
  · rw [if_pos hc1] at h
    refine Q.map (A.zT (gI_of zm152 (e := (3, 3, .ifCond .eq 9, [7])) rfl) (decide_eq_true hc1)) ?_
    exact dt152_7 hd hl  h
  · rw [if_neg hc1] at h
    refine Q.map (A.zF (gI_of zm152 (e := (3, 3, .ifCond .eq 9, [7])) rfl) (fun q => hc1 (of_decide_eq_true q))) ?_
    refine Q.run zm152 2 (i' := 6) (ls' := [some (.ref 117), some (.int x1), some (.int x2), some (.int x3)]) (st' := [.int 36, .ref 117]) rfl ?_
    obtain ⟨s4, hc3, h⟩ := bu_so h
    have hq2 : Q 1 sio tt cc d 141 0 [some (.ref 117), some (.int 36)] [] s (.inl none, s4) := dt141 (by omega) hl  hc3
    refine Q.callV (gC_vi zm152 (show zM152.2.2.2.2.2[6]? = some (9, 3, .invokevirtual 72, [0, 141, 1, 8]) from rfl) zm141 (hl.lt (a := 117) (by decide)) (hl.T (a := 117) (p := (8, 11)) 39 rfl rfl) rfl (show aCr 1 117 [.int 36, .ref 117] 2 = some ([some (.ref 117), some (.int 36)], []) from rfl)) hq2 ?_
    exact dt152_7 hd hq2.1  h
/-! 148 FormulaTrees$Writer.writeReference(I)V -/
set_option maxRecDepth 100000 in
theorem zm148 : zP[148]? = some zM148 := rfl
def dm148_18 (x1 : Int32) (x3 : Int32) (s : aS) : Option (aS) :=
  vN (sR s 117 5) (
    none
  ) fun b2 =>
    if aK s b2 3 then
      bu (dm57 b2 x1 3 s) fun r6 =>
      vN (sR s 117 5) (
        none
      ) fun b8 =>
        if aK s b8 3 then
          bu (dm57 b8 x1 4 s) fun r12 =>
          bu (dm152 r6 r12 x3 s) fun s15 =>
          vN (sR s15 117 5) (
            none
          ) fun b19 =>
            if aK s15 b19 3 then
              bu (dm57 b19 x1 0 s15) fun r23 =>
              if r23 = 5 then
                bu (dm141 58 s15) fun s27 =>
                vN (sR s27 117 5) (
                  none
                ) fun b32 =>
                  if aK s27 b32 3 then
                    bu (dm57 b32 x1 5 s27) fun r36 =>
                    vN (sR s27 117 5) (
                      none
                    ) fun b38 =>
                      if aK s27 b38 3 then
                        bu (dm57 b38 x1 6 s27) fun r42 =>
                        bu (dm152 r36 r42 (x3 / 4) s27) fun s45 =>
                        some s45
                      else none
                  else none
              else
                some s15
            else none
        else none
    else none
set_option maxRecDepth 100000 in
theorem dt148_18 {sio : Bool} {tt : Nat} {cc : Nat → Nat → Int32} {d : Nat} (hd : 3 ≤ d) {x1 : Int32} {x3 : Int32} {x2 : Int32} {s : aS} (hl : Ly tt cc s) {o : aS} (h : dm148_18  x1 x3 s = some o) : Q 1 sio tt cc d 148 18 [some (.ref 117), some (.int x1), some (.int x2), some (.int x3)] [] s (.inl none, o) := by
  unfold dm148_18 at h
  obtain ⟨d, rfl⟩ : ∃ e, d = e + 1 := ⟨d - 1, by omega⟩
  refine Q.run zm148 2 (i' := 20) (ls' := [some (.ref 117), some (.int x1), some (.int x2), some (.int x3)]) (st' := [.ref 117, .ref 117]) rfl ?_
  rcases vN_so h with ⟨hv1, h⟩ | ⟨b2, hv1, h⟩
  · refine Q.map (A.gf (gI_of zm148 (e := (33, 3, .getfield 26, [8, 5])) rfl) (hl.lt (a := 117) (by decide)) (hl.T (a := 117) (p := (8, 11)) 39 rfl rfl) (by decide) hv1) ?_
    refine Q.run zm148 2 (i' := 23) (ls' := [some (.ref 117), some (.int x1), some (.int x2), some (.int x3)]) (st' := [.int 3, .int x1, .null, .ref 117]) rfl ?_
    cases h
  · obtain ⟨hr3, h⟩ := ite_so h
    refine Q.map (A.gf (gI_of zm148 (e := (33, 3, .getfield 26, [8, 5])) rfl) (hl.lt (a := 117) (by decide)) (hl.T (a := 117) (p := (8, 11)) 39 rfl rfl) (by decide) hv1) ?_
    refine Q.run zm148 2 (i' := 23) (ls' := [some (.ref 117), some (.int x1), some (.int x2), some (.int x3)]) (st' := [.int 3, .int x1, .ref b2, .ref 117]) rfl ?_
    obtain ⟨r6, hc5, h⟩ := bu_so h
    have hq4 : Q 1 sio tt cc d 57 0 [some (.ref b2), some (.int x1), some (.int 3), none] [] s (.inl (some (.int r6)), s) := dt57 (by omega) hl hr3 hc5
    refine Q.callI (gC_vi zm148 (show zM148.2.2.2.2.2[23]? = some (38, 3, .invokevirtual 75, [0, 57, 2, 3]) from rfl) zm57 hr3.1 (hl.tr hr3).1 rfl (show aCr 2 b2 [.int 3, .int x1, .ref b2, .ref 117] 4 = some ([some (.ref b2), some (.int x1), some (.int 3), none], [.ref 117]) from rfl)) hq4 ?_
    refine Q.run zm148 1 (i' := 25) (ls' := [some (.ref 117), some (.int x1), some (.int x2), some (.int x3)]) (st' := [.ref 117, .int r6, .ref 117]) rfl ?_
    rcases vN_so h with ⟨hv7, h⟩ | ⟨b8, hv7, h⟩
    · refine Q.map (A.gf (gI_of zm148 (e := (42, 3, .getfield 26, [8, 5])) rfl) (hl.lt (a := 117) (by decide)) (hl.T (a := 117) (p := (8, 11)) 39 rfl rfl) (by decide) hv7) ?_
      refine Q.run zm148 2 (i' := 28) (ls' := [some (.ref 117), some (.int x1), some (.int x2), some (.int x3)]) (st' := [.int 4, .int x1, .null, .int r6, .ref 117]) rfl ?_
      cases h
    · obtain ⟨hr9, h⟩ := ite_so h
      refine Q.map (A.gf (gI_of zm148 (e := (42, 3, .getfield 26, [8, 5])) rfl) (hl.lt (a := 117) (by decide)) (hl.T (a := 117) (p := (8, 11)) 39 rfl rfl) (by decide) hv7) ?_
      refine Q.run zm148 2 (i' := 28) (ls' := [some (.ref 117), some (.int x1), some (.int x2), some (.int x3)]) (st' := [.int 4, .int x1, .ref b8, .int r6, .ref 117]) rfl ?_
      obtain ⟨r12, hc11, h⟩ := bu_so h
      have hq10 : Q 1 sio tt cc d 57 0 [some (.ref b8), some (.int x1), some (.int 4), none] [] s (.inl (some (.int r12)), s) := dt57 (by omega) hl hr9 hc11
      refine Q.callI (gC_vi zm148 (show zM148.2.2.2.2.2[28]? = some (47, 3, .invokevirtual 75, [0, 57, 2, 3]) from rfl) zm57 hr9.1 (hl.tr hr9).1 rfl (show aCr 2 b8 [.int 4, .int x1, .ref b8, .int r6, .ref 117] 4 = some ([some (.ref b8), some (.int x1), some (.int 4), none], [.int r6, .ref 117]) from rfl)) hq10 ?_
      refine Q.run zm148 1 (i' := 30) (ls' := [some (.ref 117), some (.int x1), some (.int x2), some (.int x3)]) (st' := [.int x3, .int r12, .int r6, .ref 117]) rfl ?_
      obtain ⟨s15, hc14, h⟩ := bu_so h
      have hq13 : Q 1 sio tt cc d 152 0 [some (.ref 117), some (.int r6), some (.int r12), some (.int x3)] [] s (.inl none, s15) := dt152 (by omega) hl  hc14
      refine Q.callV (gC_vi zm148 (show zM148.2.2.2.2.2[30]? = some (51, 3, .invokevirtual 151, [0, 152, 3, 8]) from rfl) zm152 (hl.lt (a := 117) (by decide)) (hl.T (a := 117) (p := (8, 11)) 39 rfl rfl) rfl (show aCr 3 117 [.int x3, .int r12, .int r6, .ref 117] 4 = some ([some (.ref 117), some (.int r6), some (.int r12), some (.int x3)], []) from rfl)) hq13 ?_
      have hr16 : aK s15 b2 3 := hq13.2.1.k hr3
      have hr17 : aK s15 b8 3 := hq13.2.1.k hr9
      refine Q.run zm148 1 (i' := 32) (ls' := [some (.ref 117), some (.int x1), some (.int x2), some (.int x3)]) (st' := [.ref 117]) rfl ?_
      rcases vN_so h with ⟨hv18, h⟩ | ⟨b19, hv18, h⟩
      · refine Q.map (A.gf (gI_of zm148 (e := (55, 3, .getfield 26, [8, 5])) rfl) (hq13.1.lt (a := 117) (by decide)) (hq13.1.T (a := 117) (p := (8, 11)) 39 rfl rfl) (by decide) hv18) ?_
        refine Q.run zm148 2 (i' := 35) (ls' := [some (.ref 117), some (.int x1), some (.int x2), some (.int x3)]) (st' := [.int 0, .int x1, .null]) rfl ?_
        cases h
      · obtain ⟨hr20, h⟩ := ite_so h
        refine Q.map (A.gf (gI_of zm148 (e := (55, 3, .getfield 26, [8, 5])) rfl) (hq13.1.lt (a := 117) (by decide)) (hq13.1.T (a := 117) (p := (8, 11)) 39 rfl rfl) (by decide) hv18) ?_
        refine Q.run zm148 2 (i' := 35) (ls' := [some (.ref 117), some (.int x1), some (.int x2), some (.int x3)]) (st' := [.int 0, .int x1, .ref b19]) rfl ?_
        obtain ⟨r23, hc22, h⟩ := bu_so h
        have hq21 : Q 1 sio tt cc d 57 0 [some (.ref b19), some (.int x1), some (.int 0), none] [] s15 (.inl (some (.int r23)), s15) := dt57 (by omega) hq13.1 hr20 hc22
        refine Q.callI (gC_vi zm148 (show zM148.2.2.2.2.2[35]? = some (60, 3, .invokevirtual 75, [0, 57, 2, 3]) from rfl) zm57 hr20.1 (hq13.1.tr hr20).1 rfl (show aCr 2 b19 [.int 0, .int x1, .ref b19] 4 = some ([some (.ref b19), some (.int x1), some (.int 0), none], []) from rfl)) hq21 ?_
        refine Q.run zm148 1 (i' := 37) (ls' := [some (.ref 117), some (.int x1), some (.int x2), some (.int x3)]) (st' := [.int 5, .int r23]) rfl ?_
        by_cases hc24 : r23 = 5
        · rw [if_pos hc24] at h
          refine Q.map (A.bF (gI_of zm148 (e := (64, 3, .if_icmp .ne 35, [56])) rfl) (fun q => of_decide_eq_true q hc24)) ?_
          refine Q.run zm148 2 (i' := 40) (ls' := [some (.ref 117), some (.int x1), some (.int x2), some (.int x3)]) (st' := [.int 58, .ref 117]) rfl ?_
          obtain ⟨s27, hc26, h⟩ := bu_so h
          have hq25 : Q 1 sio tt cc d 141 0 [some (.ref 117), some (.int 58)] [] s15 (.inl none, s27) := dt141 (by omega) hq13.1  hc26
          refine Q.callV (gC_vi zm148 (show zM148.2.2.2.2.2[40]? = some (70, 3, .invokevirtual 72, [0, 141, 1, 8]) from rfl) zm141 (hq13.1.lt (a := 117) (by decide)) (hq13.1.T (a := 117) (p := (8, 11)) 39 rfl rfl) rfl (show aCr 1 117 [.int 58, .ref 117] 2 = some ([some (.ref 117), some (.int 58)], []) from rfl)) hq25 ?_
          have hr28 : aK s27 b2 3 := hq25.2.1.k hr16
          have hr29 : aK s27 b8 3 := hq25.2.1.k hr17
          have hr30 : aK s27 b19 3 := hq25.2.1.k hr20
          refine Q.run zm148 2 (i' := 43) (ls' := [some (.ref 117), some (.int x1), some (.int x2), some (.int x3)]) (st' := [.ref 117, .ref 117]) rfl ?_
          rcases vN_so h with ⟨hv31, h⟩ | ⟨b32, hv31, h⟩
          · refine Q.map (A.gf (gI_of zm148 (e := (75, 3, .getfield 26, [8, 5])) rfl) (hq25.1.lt (a := 117) (by decide)) (hq25.1.T (a := 117) (p := (8, 11)) 39 rfl rfl) (by decide) hv31) ?_
            refine Q.run zm148 2 (i' := 46) (ls' := [some (.ref 117), some (.int x1), some (.int x2), some (.int x3)]) (st' := [.int 5, .int x1, .null, .ref 117]) rfl ?_
            cases h
          · obtain ⟨hr33, h⟩ := ite_so h
            refine Q.map (A.gf (gI_of zm148 (e := (75, 3, .getfield 26, [8, 5])) rfl) (hq25.1.lt (a := 117) (by decide)) (hq25.1.T (a := 117) (p := (8, 11)) 39 rfl rfl) (by decide) hv31) ?_
            refine Q.run zm148 2 (i' := 46) (ls' := [some (.ref 117), some (.int x1), some (.int x2), some (.int x3)]) (st' := [.int 5, .int x1, .ref b32, .ref 117]) rfl ?_
            obtain ⟨r36, hc35, h⟩ := bu_so h
            have hq34 : Q 1 sio tt cc d 57 0 [some (.ref b32), some (.int x1), some (.int 5), none] [] s27 (.inl (some (.int r36)), s27) := dt57 (by omega) hq25.1 hr33 hc35
            refine Q.callI (gC_vi zm148 (show zM148.2.2.2.2.2[46]? = some (80, 3, .invokevirtual 75, [0, 57, 2, 3]) from rfl) zm57 hr33.1 (hq25.1.tr hr33).1 rfl (show aCr 2 b32 [.int 5, .int x1, .ref b32, .ref 117] 4 = some ([some (.ref b32), some (.int x1), some (.int 5), none], [.ref 117]) from rfl)) hq34 ?_
            refine Q.run zm148 1 (i' := 48) (ls' := [some (.ref 117), some (.int x1), some (.int x2), some (.int x3)]) (st' := [.ref 117, .int r36, .ref 117]) rfl ?_
            rcases vN_so h with ⟨hv37, h⟩ | ⟨b38, hv37, h⟩
            · refine Q.map (A.gf (gI_of zm148 (e := (84, 3, .getfield 26, [8, 5])) rfl) (hq25.1.lt (a := 117) (by decide)) (hq25.1.T (a := 117) (p := (8, 11)) 39 rfl rfl) (by decide) hv37) ?_
              refine Q.run zm148 2 (i' := 51) (ls' := [some (.ref 117), some (.int x1), some (.int x2), some (.int x3)]) (st' := [.int 6, .int x1, .null, .int r36, .ref 117]) rfl ?_
              cases h
            · obtain ⟨hr39, h⟩ := ite_so h
              refine Q.map (A.gf (gI_of zm148 (e := (84, 3, .getfield 26, [8, 5])) rfl) (hq25.1.lt (a := 117) (by decide)) (hq25.1.T (a := 117) (p := (8, 11)) 39 rfl rfl) (by decide) hv37) ?_
              refine Q.run zm148 2 (i' := 51) (ls' := [some (.ref 117), some (.int x1), some (.int x2), some (.int x3)]) (st' := [.int 6, .int x1, .ref b38, .int r36, .ref 117]) rfl ?_
              obtain ⟨r42, hc41, h⟩ := bu_so h
              have hq40 : Q 1 sio tt cc d 57 0 [some (.ref b38), some (.int x1), some (.int 6), none] [] s27 (.inl (some (.int r42)), s27) := dt57 (by omega) hq25.1 hr39 hc41
              refine Q.callI (gC_vi zm148 (show zM148.2.2.2.2.2[51]? = some (90, 3, .invokevirtual 75, [0, 57, 2, 3]) from rfl) zm57 hr39.1 (hq25.1.tr hr39).1 rfl (show aCr 2 b38 [.int 6, .int x1, .ref b38, .int r36, .ref 117] 4 = some ([some (.ref b38), some (.int x1), some (.int 6), none], [.int r36, .ref 117]) from rfl)) hq40 ?_
              refine Q.run zm148 3 (i' := 55) (ls' := [some (.ref 117), some (.int x1), some (.int x2), some (.int x3)]) (st' := [.int (x3 / 4), .int r42, .int r36, .ref 117]) rfl ?_
              obtain ⟨s45, hc44, h⟩ := bu_so h
              have hq43 : Q 1 sio tt cc d 152 0 [some (.ref 117), some (.int r36), some (.int r42), some (.int (x3 / 4))] [] s27 (.inl none, s45) := dt152 (by omega) hq25.1  hc44
              refine Q.callV (gC_vi zm148 (show zM148.2.2.2.2.2[55]? = some (96, 3, .invokevirtual 151, [0, 152, 3, 8]) from rfl) zm152 (hq25.1.lt (a := 117) (by decide)) (hq25.1.T (a := 117) (p := (8, 11)) 39 rfl rfl) rfl (show aCr 3 117 [.int (x3 / 4), .int r42, .int r36, .ref 117] 4 = some ([some (.ref 117), some (.int r36), some (.int r42), some (.int (x3 / 4))], []) from rfl)) hq43 ?_
              have hr46 : aK s45 b2 3 := hq43.2.1.k hr28
              have hr47 : aK s45 b8 3 := hq43.2.1.k hr29
              have hr48 : aK s45 b19 3 := hq43.2.1.k hr30
              have hr49 : aK s45 b32 3 := hq43.2.1.k hr33
              have hr50 : aK s45 b38 3 := hq43.2.1.k hr39
              cases h
              exact Q.ret (A.rv zm148 (show zM148.2.2.2.2.2[56]? = some (99, 1, .return_, []) from rfl) rfl) hq43.1
        · rw [if_neg hc24] at h
          refine Q.map (A.bT (gI_of zm148 (e := (64, 3, .if_icmp .ne 35, [56])) rfl) (decide_eq_true hc24)) ?_
          cases h
          exact Q.ret (A.rv zm148 (show zM148.2.2.2.2.2[56]? = some (99, 1, .return_, []) from rfl) rfl) hq13.1
def dm148 (x1 : Int32) (s : aS) : Option (aS) :=
  vN (sR s 117 5) (
    none
  ) fun b2 =>
    if aK s b2 3 then
      bu (dm57 b2 x1 2 s) fun r6 =>
      vN (sR s 117 5) (
        none
      ) fun b8 =>
        if aK s b8 3 then
          bu (dm57 b8 x1 7 s) fun r12 =>
          if r6 = (-1) then
            dm148_18 x1 r12 s
          else
            bu (dm149 r6 s) fun s16 =>
            dm148_18 x1 r12 s16
        else none
    else none
set_option maxRecDepth 100000 in
theorem dt148 {sio : Bool} {tt : Nat} {cc : Nat → Nat → Int32} {d : Nat} (hd : 3 ≤ d) {x1 : Int32} {s : aS} (hl : Ly tt cc s) {o : aS} (h : dm148  x1 s = some o) : Q 1 sio tt cc d 148 0 [some (.ref 117), some (.int x1), none, none] [] s (.inl none, o) := by
  unfold dm148 at h
  obtain ⟨d, rfl⟩ : ∃ e, d = e + 1 := ⟨d - 1, by omega⟩
  refine Q.run zm148 1 (i' := 1) (ls' := [some (.ref 117), some (.int x1), none, none]) (st' := [.ref 117]) rfl ?_
  rcases vN_so h with ⟨hv1, h⟩ | ⟨b2, hv1, h⟩
  · refine Q.map (A.gf (gI_of zm148 (e := (1, 3, .getfield 26, [8, 5])) rfl) (hl.lt (a := 117) (by decide)) (hl.T (a := 117) (p := (8, 11)) 39 rfl rfl) (by decide) hv1) ?_
    refine Q.run zm148 2 (i' := 4) (ls' := [some (.ref 117), some (.int x1), none, none]) (st' := [.int 2, .int x1, .null]) rfl ?_
    cases h
  · obtain ⟨hr3, h⟩ := ite_so h
    refine Q.map (A.gf (gI_of zm148 (e := (1, 3, .getfield 26, [8, 5])) rfl) (hl.lt (a := 117) (by decide)) (hl.T (a := 117) (p := (8, 11)) 39 rfl rfl) (by decide) hv1) ?_
    refine Q.run zm148 2 (i' := 4) (ls' := [some (.ref 117), some (.int x1), none, none]) (st' := [.int 2, .int x1, .ref b2]) rfl ?_
    obtain ⟨r6, hc5, h⟩ := bu_so h
    have hq4 : Q 1 sio tt cc d 57 0 [some (.ref b2), some (.int x1), some (.int 2), none] [] s (.inl (some (.int r6)), s) := dt57 (by omega) hl hr3 hc5
    refine Q.callI (gC_vi zm148 (show zM148.2.2.2.2.2[4]? = some (6, 3, .invokevirtual 75, [0, 57, 2, 3]) from rfl) zm57 hr3.1 (hl.tr hr3).1 rfl (show aCr 2 b2 [.int 2, .int x1, .ref b2] 4 = some ([some (.ref b2), some (.int x1), some (.int 2), none], []) from rfl)) hq4 ?_
    refine Q.run zm148 2 (i' := 7) (ls' := [some (.ref 117), some (.int x1), some (.int r6), none]) (st' := [.ref 117]) rfl ?_
    rcases vN_so h with ⟨hv7, h⟩ | ⟨b8, hv7, h⟩
    · refine Q.map (A.gf (gI_of zm148 (e := (11, 3, .getfield 26, [8, 5])) rfl) (hl.lt (a := 117) (by decide)) (hl.T (a := 117) (p := (8, 11)) 39 rfl rfl) (by decide) hv7) ?_
      refine Q.run zm148 2 (i' := 10) (ls' := [some (.ref 117), some (.int x1), some (.int r6), none]) (st' := [.int 7, .int x1, .null]) rfl ?_
      cases h
    · obtain ⟨hr9, h⟩ := ite_so h
      refine Q.map (A.gf (gI_of zm148 (e := (11, 3, .getfield 26, [8, 5])) rfl) (hl.lt (a := 117) (by decide)) (hl.T (a := 117) (p := (8, 11)) 39 rfl rfl) (by decide) hv7) ?_
      refine Q.run zm148 2 (i' := 10) (ls' := [some (.ref 117), some (.int x1), some (.int r6), none]) (st' := [.int 7, .int x1, .ref b8]) rfl ?_
      obtain ⟨r12, hc11, h⟩ := bu_so h
      have hq10 : Q 1 sio tt cc d 57 0 [some (.ref b8), some (.int x1), some (.int 7), none] [] s (.inl (some (.int r12)), s) := dt57 (by omega) hl hr9 hc11
      refine Q.callI (gC_vi zm148 (show zM148.2.2.2.2.2[10]? = some (17, 3, .invokevirtual 75, [0, 57, 2, 3]) from rfl) zm57 hr9.1 (hl.tr hr9).1 rfl (show aCr 2 b8 [.int 7, .int x1, .ref b8] 4 = some ([some (.ref b8), some (.int x1), some (.int 7), none], []) from rfl)) hq10 ?_
      refine Q.run zm148 3 (i' := 14) (ls' := [some (.ref 117), some (.int x1), some (.int r6), some (.int r12)]) (st' := [.int (-1), .int r6]) rfl ?_
      by_cases hc13 : r6 = (-1)
      · rw [if_pos hc13] at h
        refine Q.map (A.bT (gI_of zm148 (e := (23, 3, .if_icmp .eq 8, [18])) rfl) (decide_eq_true hc13)) ?_
        exact dt148_18 hd hl  h
      · rw [if_neg hc13] at h
        refine Q.map (A.bF (gI_of zm148 (e := (23, 3, .if_icmp .eq 8, [18])) rfl) (fun q => hc13 (of_decide_eq_true q))) ?_
        refine Q.run zm148 2 (i' := 17) (ls' := [some (.ref 117), some (.int x1), some (.int r6), some (.int r12)]) (st' := [.int r6, .ref 117]) rfl ?_
        obtain ⟨s16, hc15, h⟩ := bu_so h
        have hq14 : Q 1 sio tt cc d 149 0 [some (.ref 117), some (.int r6), none, none] [] s (.inl none, s16) := dt149 (by omega) hl  hc15
        refine Q.callV (gC_vi zm148 (show zM148.2.2.2.2.2[17]? = some (28, 3, .invokevirtual 148, [0, 149, 1, 8]) from rfl) zm149 (hl.lt (a := 117) (by decide)) (hl.T (a := 117) (p := (8, 11)) 39 rfl rfl) rfl (show aCr 1 117 [.int r6, .ref 117] 4 = some ([some (.ref 117), some (.int r6), none, none], []) from rfl)) hq14 ?_
        have hr17 : aK s16 b2 3 := hq14.2.1.k hr3
        have hr18 : aK s16 b8 3 := hq14.2.1.k hr9
        exact dt148_18 hd hq14.1  h
/-! 142 FormulaTrees$Writer.writeBeginning(I)V -/
set_option maxRecDepth 100000 in
theorem zm142 : zP[142]? = some zM142 := rfl
def dm142_34 (c1 : Nat) (s : aS) : Option (aS) :=
  bu (dm147 c1 s) fun s3 =>
  some s3
set_option maxRecDepth 100000 in
theorem dt142_34 {sio : Bool} {tt : Nat} {cc : Nat → Nat → Int32} {d : Nat} (hd : 5 ≤ d) {c1 : Nat} {x1 : Int32} {s : aS} (hl : Ly tt cc s) (hk_c1 : aK s c1 70) {o : aS} (h : dm142_34  c1 s = some o) : Q 1 sio tt cc d 142 34 [some (.ref 117), some (.int x1)] [.ref c1, .ref 117] s (.inl none, o) := by
  unfold dm142_34 at h
  obtain ⟨d, rfl⟩ : ∃ e, d = e + 1 := ⟨d - 1, by omega⟩
  obtain ⟨s3, hc2, h⟩ := bu_so h
  have hq1 : Q 1 sio tt cc d 147 0 [some (.ref 117), some (.ref c1), none] [] s (.inl none, s3) := dt147 (by omega) hl hk_c1 hc2
  refine Q.callV (gC_vi zm142 (show zM142.2.2.2.2.2[34]? = some (126, 3, .invokevirtual 90, [0, 147, 1, 8]) from rfl) zm147 (hl.lt (a := 117) (by decide)) (hl.T (a := 117) (p := (8, 11)) 39 rfl rfl) rfl (show aCr 1 117 [.ref c1, .ref 117] 3 = some ([some (.ref 117), some (.ref c1), none], []) from rfl)) hq1 ?_
  have hr4 : aK s3 c1 70 := hq1.2.1.k hk_c1
  refine Q.run zm142 1 (i' := 51) (ls' := [some (.ref 117), some (.int x1)]) (st' := []) rfl ?_
  cases h
  exact Q.ret (A.rv zm142 (show zM142.2.2.2.2.2[51]? = some (163, 1, .return_, []) from rfl) rfl) hq1.1
def dm142 (x1 : Int32) (s : aS) : Option (aS) :=
  vN (sR s 117 5) (
    none
  ) fun b2 =>
    if aK s b2 3 then
      bu (dm57 b2 x1 0 s) fun r6 =>
      if r6 = 0 then
        bu (dm143 x1 s) fun s10 =>
        some s10
      else
        if r6 = 1 then
          bu (dm145 x1 s) fun s15 =>
          some s15
        else
          if r6 = 2 then
            vN (sR s 117 5) (
              none
            ) fun b19 =>
              if aK s b19 3 then
                bu (dm57 b19 x1 8 s) fun r23 =>
                bu (dm110 r23) fun r26 =>
                vR r26 fun b27 =>
                if aK s b27 70 then
                  bu (dm147 b27 s) fun s32 =>
                  some s32
                else none
              else none
          else
            if r6 = 3 then
              vN (sR s 117 5) (
                none
              ) fun b38 =>
                if aK s b38 3 then
                  bu (dm57 b38 x1 8 s) fun r42 =>
                  if r42 = 1 then
                    dm142_34 41 s
                  else
                    dm142_34 43 s
                else none
            else
              if r6 = 4 then
                bu (dm148 x1 s) fun s47 =>
                some s47
              else
                if r6 = 5 then
                  bu (dm148 x1 s) fun s52 =>
                  some s52
                else
                  if r6 = 6 then
                    bu (dm143 x1 s) fun s57 =>
                    some s57
                  else
                    if r6 = 7 then
                      bu (dm143 x1 s) fun s62 =>
                      bu (dm141 40 s62) fun s66 =>
                      some s66
                    else
                      if r6 = 8 then
                        some s
                      else
                        if r6 = 9 then
                          some s
                        else
                          if r6 = 10 then
                            bu (dm141 45 s) fun s73 =>
                            some s73
                          else
                            some s
    else none
set_option maxRecDepth 100000 in
theorem dt142 {sio : Bool} {tt : Nat} {cc : Nat → Nat → Int32} {d : Nat} (hd : 5 ≤ d) {x1 : Int32} {s : aS} (hl : Ly tt cc s) {o : aS} (h : dm142  x1 s = some o) : Q 1 sio tt cc d 142 0 [some (.ref 117), some (.int x1)] [] s (.inl none, o) := by
  unfold dm142 at h
  obtain ⟨d, rfl⟩ : ∃ e, d = e + 1 := ⟨d - 1, by omega⟩
  refine Q.run zm142 1 (i' := 1) (ls' := [some (.ref 117), some (.int x1)]) (st' := [.ref 117]) rfl ?_
  rcases vN_so h with ⟨hv1, h⟩ | ⟨b2, hv1, h⟩
  · refine Q.map (A.gf (gI_of zm142 (e := (1, 3, .getfield 26, [8, 5])) rfl) (hl.lt (a := 117) (by decide)) (hl.T (a := 117) (p := (8, 11)) 39 rfl rfl) (by decide) hv1) ?_
    refine Q.run zm142 2 (i' := 4) (ls' := [some (.ref 117), some (.int x1)]) (st' := [.int 0, .int x1, .null]) rfl ?_
    cases h
  · obtain ⟨hr3, h⟩ := ite_so h
    refine Q.map (A.gf (gI_of zm142 (e := (1, 3, .getfield 26, [8, 5])) rfl) (hl.lt (a := 117) (by decide)) (hl.T (a := 117) (p := (8, 11)) 39 rfl rfl) (by decide) hv1) ?_
    refine Q.run zm142 2 (i' := 4) (ls' := [some (.ref 117), some (.int x1)]) (st' := [.int 0, .int x1, .ref b2]) rfl ?_
    obtain ⟨r6, hc5, h⟩ := bu_so h
    have hq4 : Q 1 sio tt cc d 57 0 [some (.ref b2), some (.int x1), some (.int 0), none] [] s (.inl (some (.int r6)), s) := dt57 (by omega) hl hr3 hc5
    refine Q.callI (gC_vi zm142 (show zM142.2.2.2.2.2[4]? = some (6, 3, .invokevirtual 75, [0, 57, 2, 3]) from rfl) zm57 hr3.1 (hl.tr hr3).1 rfl (show aCr 2 b2 [.int 0, .int x1, .ref b2] 4 = some ([some (.ref b2), some (.int x1), some (.int 0), none], []) from rfl)) hq4 ?_
    by_cases hc7 : r6 = 0
    · rw [if_pos hc7] at h
      refine Q.map (A.ts (gI_of zm142 (e := (9, 59, .tableswitch 154 0 10 #[59, 67, 75, 95, 123, 123, 59, 131, 154, 154, 145], [51, 6, 10, 14, 23, 36, 36, 6, 40, 51, 51, 47])) rfl) (t := 6) (by rw [hc7] <;> decide)) ?_
      refine Q.run zm142 2 (i' := 8) (ls' := [some (.ref 117), some (.int x1)]) (st' := [.int x1, .ref 117]) rfl ?_
      obtain ⟨s10, hc9, h⟩ := bu_so h
      have hq8 : Q 1 sio tt cc d 143 0 [some (.ref 117), some (.int x1), none] [] s (.inl none, s10) := dt143 (by omega) hl  hc9
      refine Q.callV (gC_vi zm142 (show zM142.2.2.2.2.2[8]? = some (70, 3, .invokevirtual 126, [0, 143, 1, 8]) from rfl) zm143 (hl.lt (a := 117) (by decide)) (hl.T (a := 117) (p := (8, 11)) 39 rfl rfl) rfl (show aCr 1 117 [.int x1, .ref 117] 3 = some ([some (.ref 117), some (.int x1), none], []) from rfl)) hq8 ?_
      have hr11 : aK s10 b2 3 := hq8.2.1.k hr3
      refine Q.run zm142 1 (i' := 51) (ls' := [some (.ref 117), some (.int x1)]) (st' := []) rfl ?_
      cases h
      exact Q.ret (A.rv zm142 (show zM142.2.2.2.2.2[51]? = some (163, 1, .return_, []) from rfl) rfl) hq8.1
    · rw [if_neg hc7] at h
      by_cases hc12 : r6 = 1
      · rw [if_pos hc12] at h
        refine Q.map (A.ts (gI_of zm142 (e := (9, 59, .tableswitch 154 0 10 #[59, 67, 75, 95, 123, 123, 59, 131, 154, 154, 145], [51, 6, 10, 14, 23, 36, 36, 6, 40, 51, 51, 47])) rfl) (t := 10) (by rw [hc12] <;> decide)) ?_
        refine Q.run zm142 2 (i' := 12) (ls' := [some (.ref 117), some (.int x1)]) (st' := [.int x1, .ref 117]) rfl ?_
        obtain ⟨s15, hc14, h⟩ := bu_so h
        have hq13 : Q 1 sio tt cc d 145 0 [some (.ref 117), some (.int x1), none] [] s (.inl none, s15) := dt145 (by omega) hl  hc14
        refine Q.callV (gC_vi zm142 (show zM142.2.2.2.2.2[12]? = some (78, 3, .invokevirtual 129, [0, 145, 1, 8]) from rfl) zm145 (hl.lt (a := 117) (by decide)) (hl.T (a := 117) (p := (8, 11)) 39 rfl rfl) rfl (show aCr 1 117 [.int x1, .ref 117] 3 = some ([some (.ref 117), some (.int x1), none], []) from rfl)) hq13 ?_
        have hr16 : aK s15 b2 3 := hq13.2.1.k hr3
        refine Q.run zm142 1 (i' := 51) (ls' := [some (.ref 117), some (.int x1)]) (st' := []) rfl ?_
        cases h
        exact Q.ret (A.rv zm142 (show zM142.2.2.2.2.2[51]? = some (163, 1, .return_, []) from rfl) rfl) hq13.1
      · rw [if_neg hc12] at h
        by_cases hc17 : r6 = 2
        · rw [if_pos hc17] at h
          refine Q.map (A.ts (gI_of zm142 (e := (9, 59, .tableswitch 154 0 10 #[59, 67, 75, 95, 123, 123, 59, 131, 154, 154, 145], [51, 6, 10, 14, 23, 36, 36, 6, 40, 51, 51, 47])) rfl) (t := 14) (by rw [hc17] <;> decide)) ?_
          refine Q.run zm142 2 (i' := 16) (ls' := [some (.ref 117), some (.int x1)]) (st' := [.ref 117, .ref 117]) rfl ?_
          rcases vN_so h with ⟨hv18, h⟩ | ⟨b19, hv18, h⟩
          · refine Q.map (A.gf (gI_of zm142 (e := (86, 3, .getfield 26, [8, 5])) rfl) (hl.lt (a := 117) (by decide)) (hl.T (a := 117) (p := (8, 11)) 39 rfl rfl) (by decide) hv18) ?_
            refine Q.run zm142 2 (i' := 19) (ls' := [some (.ref 117), some (.int x1)]) (st' := [.int 8, .int x1, .null, .ref 117]) rfl ?_
            cases h
          · obtain ⟨hr20, h⟩ := ite_so h
            refine Q.map (A.gf (gI_of zm142 (e := (86, 3, .getfield 26, [8, 5])) rfl) (hl.lt (a := 117) (by decide)) (hl.T (a := 117) (p := (8, 11)) 39 rfl rfl) (by decide) hv18) ?_
            refine Q.run zm142 2 (i' := 19) (ls' := [some (.ref 117), some (.int x1)]) (st' := [.int 8, .int x1, .ref b19, .ref 117]) rfl ?_
            obtain ⟨r23, hc22, h⟩ := bu_so h
            have hq21 : Q 1 sio tt cc d 57 0 [some (.ref b19), some (.int x1), some (.int 8), none] [] s (.inl (some (.int r23)), s) := dt57 (by omega) hl hr20 hc22
            refine Q.callI (gC_vi zm142 (show zM142.2.2.2.2.2[19]? = some (92, 3, .invokevirtual 75, [0, 57, 2, 3]) from rfl) zm57 hr20.1 (hl.tr hr20).1 rfl (show aCr 2 b19 [.int 8, .int x1, .ref b19, .ref 117] 4 = some ([some (.ref b19), some (.int x1), some (.int 8), none], [.ref 117]) from rfl)) hq21 ?_
            obtain ⟨r26, hc25, h⟩ := bu_so h
            have hq24 : Q 1 sio tt cc d 110 0 [some (.int r23)] [] s (.inl (some r26), s) := dt110 (by omega) hl  hc25
            obtain ⟨b27, hv28, h9⟩ := vR_so h
            clear h
            subst hv28
            have h := h9
            obtain ⟨hr29, h⟩ := ite_so h
            refine Q.callR (gC_st zm142 (show zM142.2.2.2.2.2[20]? = some (95, 3, .invokestatic 132, [0, 110, 1]) from rfl) zm110 (show aC 1 [.int r23, .ref 117] 1 = some ([some (.int r23)], [.ref 117]) from rfl)) hq24 ?_
            obtain ⟨s32, hc31, h⟩ := bu_so h
            have hq30 : Q 1 sio tt cc d 147 0 [some (.ref 117), some (.ref b27), none] [] s (.inl none, s32) := dt147 (by omega) hl hr29 hc31
            refine Q.callV (gC_vi zm142 (show zM142.2.2.2.2.2[21]? = some (98, 3, .invokevirtual 90, [0, 147, 1, 8]) from rfl) zm147 (hl.lt (a := 117) (by decide)) (hl.T (a := 117) (p := (8, 11)) 39 rfl rfl) rfl (show aCr 1 117 [.ref b27, .ref 117] 3 = some ([some (.ref 117), some (.ref b27), none], []) from rfl)) hq30 ?_
            have hr33 : aK s32 b2 3 := hq30.2.1.k hr3
            have hr34 : aK s32 b19 3 := hq30.2.1.k hr20
            have hr35 : aK s32 b27 70 := hq30.2.1.k hr29
            refine Q.run zm142 1 (i' := 51) (ls' := [some (.ref 117), some (.int x1)]) (st' := []) rfl ?_
            cases h
            exact Q.ret (A.rv zm142 (show zM142.2.2.2.2.2[51]? = some (163, 1, .return_, []) from rfl) rfl) hq30.1
        · rw [if_neg hc17] at h
          by_cases hc36 : r6 = 3
          · rw [if_pos hc36] at h
            refine Q.map (A.ts (gI_of zm142 (e := (9, 59, .tableswitch 154 0 10 #[59, 67, 75, 95, 123, 123, 59, 131, 154, 154, 145], [51, 6, 10, 14, 23, 36, 36, 6, 40, 51, 51, 47])) rfl) (t := 23) (by rw [hc36] <;> decide)) ?_
            refine Q.run zm142 2 (i' := 25) (ls' := [some (.ref 117), some (.int x1)]) (st' := [.ref 117, .ref 117]) rfl ?_
            rcases vN_so h with ⟨hv37, h⟩ | ⟨b38, hv37, h⟩
            · refine Q.map (A.gf (gI_of zm142 (e := (106, 3, .getfield 26, [8, 5])) rfl) (hl.lt (a := 117) (by decide)) (hl.T (a := 117) (p := (8, 11)) 39 rfl rfl) (by decide) hv37) ?_
              refine Q.run zm142 2 (i' := 28) (ls' := [some (.ref 117), some (.int x1)]) (st' := [.int 8, .int x1, .null, .ref 117]) rfl ?_
              cases h
            · obtain ⟨hr39, h⟩ := ite_so h
              refine Q.map (A.gf (gI_of zm142 (e := (106, 3, .getfield 26, [8, 5])) rfl) (hl.lt (a := 117) (by decide)) (hl.T (a := 117) (p := (8, 11)) 39 rfl rfl) (by decide) hv37) ?_
              refine Q.run zm142 2 (i' := 28) (ls' := [some (.ref 117), some (.int x1)]) (st' := [.int 8, .int x1, .ref b38, .ref 117]) rfl ?_
              obtain ⟨r42, hc41, h⟩ := bu_so h
              have hq40 : Q 1 sio tt cc d 57 0 [some (.ref b38), some (.int x1), some (.int 8), none] [] s (.inl (some (.int r42)), s) := dt57 (by omega) hl hr39 hc41
              refine Q.callI (gC_vi zm142 (show zM142.2.2.2.2.2[28]? = some (112, 3, .invokevirtual 75, [0, 57, 2, 3]) from rfl) zm57 hr39.1 (hl.tr hr39).1 rfl (show aCr 2 b38 [.int 8, .int x1, .ref b38, .ref 117] 4 = some ([some (.ref b38), some (.int x1), some (.int 8), none], [.ref 117]) from rfl)) hq40 ?_
              refine Q.run zm142 1 (i' := 30) (ls' := [some (.ref 117), some (.int x1)]) (st' := [.int 1, .int r42, .ref 117]) rfl ?_
              by_cases hc43 : r42 = 1
              · rw [if_pos hc43] at h
                refine Q.map (A.bF (gI_of zm142 (e := (116, 3, .if_icmp .ne 8, [33])) rfl) (fun q => of_decide_eq_true q hc43)) ?_
                refine Q.run zm142 2 (i' := 34) (ls' := [some (.ref 117), some (.int x1)]) (st' := [.ref 41, .ref 117]) rfl ?_
                exact dt142_34 hd hl (hl.lowK (a := 41) (c := 70) (by decide) (by decide)) h
              · rw [if_neg hc43] at h
                refine Q.map (A.bT (gI_of zm142 (e := (116, 3, .if_icmp .ne 8, [33])) rfl) (decide_eq_true hc43)) ?_
                refine Q.run zm142 1 (i' := 34) (ls' := [some (.ref 117), some (.int x1)]) (st' := [.ref 43, .ref 117]) rfl ?_
                exact dt142_34 hd hl (hl.lowK (a := 43) (c := 70) (by decide) (by decide)) h
          · rw [if_neg hc36] at h
            by_cases hc44 : r6 = 4
            · rw [if_pos hc44] at h
              refine Q.map (A.ts (gI_of zm142 (e := (9, 59, .tableswitch 154 0 10 #[59, 67, 75, 95, 123, 123, 59, 131, 154, 154, 145], [51, 6, 10, 14, 23, 36, 36, 6, 40, 51, 51, 47])) rfl) (t := 36) (by rw [hc44] <;> decide)) ?_
              refine Q.run zm142 2 (i' := 38) (ls' := [some (.ref 117), some (.int x1)]) (st' := [.int x1, .ref 117]) rfl ?_
              obtain ⟨s47, hc46, h⟩ := bu_so h
              have hq45 : Q 1 sio tt cc d 148 0 [some (.ref 117), some (.int x1), none, none] [] s (.inl none, s47) := dt148 (by omega) hl  hc46
              refine Q.callV (gC_vi zm142 (show zM142.2.2.2.2.2[38]? = some (134, 3, .invokevirtual 139, [0, 148, 1, 8]) from rfl) zm148 (hl.lt (a := 117) (by decide)) (hl.T (a := 117) (p := (8, 11)) 39 rfl rfl) rfl (show aCr 1 117 [.int x1, .ref 117] 4 = some ([some (.ref 117), some (.int x1), none, none], []) from rfl)) hq45 ?_
              have hr48 : aK s47 b2 3 := hq45.2.1.k hr3
              refine Q.run zm142 1 (i' := 51) (ls' := [some (.ref 117), some (.int x1)]) (st' := []) rfl ?_
              cases h
              exact Q.ret (A.rv zm142 (show zM142.2.2.2.2.2[51]? = some (163, 1, .return_, []) from rfl) rfl) hq45.1
            · rw [if_neg hc44] at h
              by_cases hc49 : r6 = 5
              · rw [if_pos hc49] at h
                refine Q.map (A.ts (gI_of zm142 (e := (9, 59, .tableswitch 154 0 10 #[59, 67, 75, 95, 123, 123, 59, 131, 154, 154, 145], [51, 6, 10, 14, 23, 36, 36, 6, 40, 51, 51, 47])) rfl) (t := 36) (by rw [hc49] <;> decide)) ?_
                refine Q.run zm142 2 (i' := 38) (ls' := [some (.ref 117), some (.int x1)]) (st' := [.int x1, .ref 117]) rfl ?_
                obtain ⟨s52, hc51, h⟩ := bu_so h
                have hq50 : Q 1 sio tt cc d 148 0 [some (.ref 117), some (.int x1), none, none] [] s (.inl none, s52) := dt148 (by omega) hl  hc51
                refine Q.callV (gC_vi zm142 (show zM142.2.2.2.2.2[38]? = some (134, 3, .invokevirtual 139, [0, 148, 1, 8]) from rfl) zm148 (hl.lt (a := 117) (by decide)) (hl.T (a := 117) (p := (8, 11)) 39 rfl rfl) rfl (show aCr 1 117 [.int x1, .ref 117] 4 = some ([some (.ref 117), some (.int x1), none, none], []) from rfl)) hq50 ?_
                have hr53 : aK s52 b2 3 := hq50.2.1.k hr3
                refine Q.run zm142 1 (i' := 51) (ls' := [some (.ref 117), some (.int x1)]) (st' := []) rfl ?_
                cases h
                exact Q.ret (A.rv zm142 (show zM142.2.2.2.2.2[51]? = some (163, 1, .return_, []) from rfl) rfl) hq50.1
              · rw [if_neg hc49] at h
                by_cases hc54 : r6 = 6
                · rw [if_pos hc54] at h
                  refine Q.map (A.ts (gI_of zm142 (e := (9, 59, .tableswitch 154 0 10 #[59, 67, 75, 95, 123, 123, 59, 131, 154, 154, 145], [51, 6, 10, 14, 23, 36, 36, 6, 40, 51, 51, 47])) rfl) (t := 6) (by rw [hc54] <;> decide)) ?_
                  refine Q.run zm142 2 (i' := 8) (ls' := [some (.ref 117), some (.int x1)]) (st' := [.int x1, .ref 117]) rfl ?_
                  obtain ⟨s57, hc56, h⟩ := bu_so h
                  have hq55 : Q 1 sio tt cc d 143 0 [some (.ref 117), some (.int x1), none] [] s (.inl none, s57) := dt143 (by omega) hl  hc56
                  refine Q.callV (gC_vi zm142 (show zM142.2.2.2.2.2[8]? = some (70, 3, .invokevirtual 126, [0, 143, 1, 8]) from rfl) zm143 (hl.lt (a := 117) (by decide)) (hl.T (a := 117) (p := (8, 11)) 39 rfl rfl) rfl (show aCr 1 117 [.int x1, .ref 117] 3 = some ([some (.ref 117), some (.int x1), none], []) from rfl)) hq55 ?_
                  have hr58 : aK s57 b2 3 := hq55.2.1.k hr3
                  refine Q.run zm142 1 (i' := 51) (ls' := [some (.ref 117), some (.int x1)]) (st' := []) rfl ?_
                  cases h
                  exact Q.ret (A.rv zm142 (show zM142.2.2.2.2.2[51]? = some (163, 1, .return_, []) from rfl) rfl) hq55.1
                · rw [if_neg hc54] at h
                  by_cases hc59 : r6 = 7
                  · rw [if_pos hc59] at h
                    refine Q.map (A.ts (gI_of zm142 (e := (9, 59, .tableswitch 154 0 10 #[59, 67, 75, 95, 123, 123, 59, 131, 154, 154, 145], [51, 6, 10, 14, 23, 36, 36, 6, 40, 51, 51, 47])) rfl) (t := 40) (by rw [hc59] <;> decide)) ?_
                    refine Q.run zm142 2 (i' := 42) (ls' := [some (.ref 117), some (.int x1)]) (st' := [.int x1, .ref 117]) rfl ?_
                    obtain ⟨s62, hc61, h⟩ := bu_so h
                    have hq60 : Q 1 sio tt cc d 143 0 [some (.ref 117), some (.int x1), none] [] s (.inl none, s62) := dt143 (by omega) hl  hc61
                    refine Q.callV (gC_vi zm142 (show zM142.2.2.2.2.2[42]? = some (142, 3, .invokevirtual 126, [0, 143, 1, 8]) from rfl) zm143 (hl.lt (a := 117) (by decide)) (hl.T (a := 117) (p := (8, 11)) 39 rfl rfl) rfl (show aCr 1 117 [.int x1, .ref 117] 3 = some ([some (.ref 117), some (.int x1), none], []) from rfl)) hq60 ?_
                    have hr63 : aK s62 b2 3 := hq60.2.1.k hr3
                    refine Q.run zm142 2 (i' := 45) (ls' := [some (.ref 117), some (.int x1)]) (st' := [.int 40, .ref 117]) rfl ?_
                    obtain ⟨s66, hc65, h⟩ := bu_so h
                    have hq64 : Q 1 sio tt cc d 141 0 [some (.ref 117), some (.int 40)] [] s62 (.inl none, s66) := dt141 (by omega) hq60.1  hc65
                    refine Q.callV (gC_vi zm142 (show zM142.2.2.2.2.2[45]? = some (148, 3, .invokevirtual 72, [0, 141, 1, 8]) from rfl) zm141 (hq60.1.lt (a := 117) (by decide)) (hq60.1.T (a := 117) (p := (8, 11)) 39 rfl rfl) rfl (show aCr 1 117 [.int 40, .ref 117] 2 = some ([some (.ref 117), some (.int 40)], []) from rfl)) hq64 ?_
                    have hr67 : aK s66 b2 3 := hq64.2.1.k hr63
                    refine Q.run zm142 1 (i' := 51) (ls' := [some (.ref 117), some (.int x1)]) (st' := []) rfl ?_
                    cases h
                    exact Q.ret (A.rv zm142 (show zM142.2.2.2.2.2[51]? = some (163, 1, .return_, []) from rfl) rfl) hq64.1
                  · rw [if_neg hc59] at h
                    by_cases hc68 : r6 = 8
                    · rw [if_pos hc68] at h
                      refine Q.map (A.ts (gI_of zm142 (e := (9, 59, .tableswitch 154 0 10 #[59, 67, 75, 95, 123, 123, 59, 131, 154, 154, 145], [51, 6, 10, 14, 23, 36, 36, 6, 40, 51, 51, 47])) rfl) (t := 51) (by rw [hc68] <;> decide)) ?_
                      cases h
                      exact Q.ret (A.rv zm142 (show zM142.2.2.2.2.2[51]? = some (163, 1, .return_, []) from rfl) rfl) hl
                    · rw [if_neg hc68] at h
                      by_cases hc69 : r6 = 9
                      · rw [if_pos hc69] at h
                        refine Q.map (A.ts (gI_of zm142 (e := (9, 59, .tableswitch 154 0 10 #[59, 67, 75, 95, 123, 123, 59, 131, 154, 154, 145], [51, 6, 10, 14, 23, 36, 36, 6, 40, 51, 51, 47])) rfl) (t := 51) (by rw [hc69] <;> decide)) ?_
                        cases h
                        exact Q.ret (A.rv zm142 (show zM142.2.2.2.2.2[51]? = some (163, 1, .return_, []) from rfl) rfl) hl
                      · rw [if_neg hc69] at h
                        by_cases hc70 : r6 = 10
                        · rw [if_pos hc70] at h
                          refine Q.map (A.ts (gI_of zm142 (e := (9, 59, .tableswitch 154 0 10 #[59, 67, 75, 95, 123, 123, 59, 131, 154, 154, 145], [51, 6, 10, 14, 23, 36, 36, 6, 40, 51, 51, 47])) rfl) (t := 47) (by rw [hc70] <;> decide)) ?_
                          refine Q.run zm142 2 (i' := 49) (ls' := [some (.ref 117), some (.int x1)]) (st' := [.int 45, .ref 117]) rfl ?_
                          obtain ⟨s73, hc72, h⟩ := bu_so h
                          have hq71 : Q 1 sio tt cc d 141 0 [some (.ref 117), some (.int 45)] [] s (.inl none, s73) := dt141 (by omega) hl  hc72
                          refine Q.callV (gC_vi zm142 (show zM142.2.2.2.2.2[49]? = some (157, 3, .invokevirtual 72, [0, 141, 1, 8]) from rfl) zm141 (hl.lt (a := 117) (by decide)) (hl.T (a := 117) (p := (8, 11)) 39 rfl rfl) rfl (show aCr 1 117 [.int 45, .ref 117] 2 = some ([some (.ref 117), some (.int 45)], []) from rfl)) hq71 ?_
                          have hr74 : aK s73 b2 3 := hq71.2.1.k hr3
                          refine Q.run zm142 1 (i' := 51) (ls' := [some (.ref 117), some (.int x1)]) (st' := []) rfl ?_
                          cases h
                          exact Q.ret (A.rv zm142 (show zM142.2.2.2.2.2[51]? = some (163, 1, .return_, []) from rfl) rfl) hq71.1
                        · rw [if_neg hc70] at h
                          refine Q.map (A.ts (gI_of zm142 (e := (9, 59, .tableswitch 154 0 10 #[59, 67, 75, 95, 123, 123, 59, 131, 154, 154, 145], [51, 6, 10, 14, 23, 36, 36, 6, 40, 51, 51, 47])) rfl) (t := 51) (by have := (show r6.toInt ≠ 0 ∧ r6.toInt ≠ 1 ∧ r6.toInt ≠ 2 ∧ r6.toInt ≠ 3 ∧ r6.toInt ≠ 4 ∧ r6.toInt ≠ 5 ∧ r6.toInt ≠ 6 ∧ r6.toInt ≠ 7 ∧ r6.toInt ≠ 8 ∧ r6.toInt ≠ 9 ∧ r6.toInt ≠ 10 from ⟨i32_ne (n := 0) hc7 (by decide), i32_ne (n := 1) hc12 (by decide), i32_ne (n := 2) hc17 (by decide), i32_ne (n := 3) hc36 (by decide), i32_ne (n := 4) hc44 (by decide), i32_ne (n := 5) hc49 (by decide), i32_ne (n := 6) hc54 (by decide), i32_ne (n := 7) hc59 (by decide), i32_ne (n := 8) hc68 (by decide), i32_ne (n := 9) hc69 (by decide), i32_ne (n := 10) hc70 (by decide)⟩); rw [if_pos]; omega)) ?_
                          cases h
                          exact Q.ret (A.rv zm142 (show zM142.2.2.2.2.2[51]? = some (163, 1, .return_, []) from rfl) rfl) hl
