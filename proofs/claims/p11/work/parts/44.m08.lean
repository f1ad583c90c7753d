/-! 102 FormulaTrees$Tree.exchange(II)V -/
set_option maxRecDepth 100000 in
theorem zm102 : zP[102]? = some zM102 := rfl
def dm102_28 (b0 : Nat) (x1 : Int32) (y0 : Int32) (s : aS) : Option (aS) :=
  bu (dm57 b0 x1 7 s) fun r3 =>
  bu (dm60 b0 x1 7 (((r3 &&& ((y0 * 5) ^^^ (-1))) + ((r3 &&& y0) * 4)) + ((r3 &&& (y0 * 4)) / 4)) s) fun s6 =>
  some s6
set_option maxRecDepth 100000 in
theorem dt102_28 {sio : Bool} {tt : Nat} {cc : Nat → Nat → Int32} {d : Nat} (hd : 1 ≤ d) {b0 : Nat} {x1 : Int32} {y0 : Int32} {x2 : Int32} {x3 : Int32} {s : aS} (hl : Ly tt cc s) (hk_b0 : aK s b0 3) {o : aS} (h : dm102_28  b0 x1 y0 s = some o) : Q 1 sio tt cc d 102 28 [some (.ref b0), some (.int x1), some (.int x2), some (.int x3), none, none, none] [.int y0] s (.inl none, o) := by
  unfold dm102_28 at h
  obtain ⟨d, rfl⟩ : ∃ e, d = e + 1 := ⟨d - 1, by omega⟩
  refine Q.run zm102 4 (i' := 32) (ls' := [some (.ref b0), some (.int x1), some (.int x2), some (.int x3), some (.int y0), none, none]) (st' := [.int 7, .int x1, .ref b0]) rfl ?_
  obtain ⟨r3, hc2, h⟩ := bu_so h
  have hq1 : Q 1 sio tt cc d 57 0 [some (.ref b0), some (.int x1), some (.int 7), none] [] s (.inl (some (.int r3)), s) := dt57 (by omega) hl hk_b0 hc2
  refine Q.callI (gC_vi zm102 (show zM102.2.2.2.2.2[32]? = some (46, 3, .invokevirtual 28, [0, 57, 2, 3]) from rfl) zm57 hk_b0.1 (hl.tr hk_b0).1 rfl (show aCr 2 b0 [.int 7, .int x1, .ref b0] 4 = some ([some (.ref b0), some (.int x1), some (.int 7), none], []) from rfl)) hq1 ?_
  refine Q.run zm102 27 (i' := 60) (ls' := [some (.ref b0), some (.int x1), some (.int x2), some (.int x3), some (.int y0), some (.int r3), some (.int (r3 &&& ((y0 * 5) ^^^ (-1))))]) (st' := [.int (((r3 &&& ((y0 * 5) ^^^ (-1))) + ((r3 &&& y0) * 4)) + ((r3 &&& (y0 * 4)) / 4)), .int 7, .int x1, .ref b0]) rfl ?_
  obtain ⟨s6, hc5, h⟩ := bu_so h
  have hq4 : Q 1 sio tt cc d 60 0 [some (.ref b0), some (.int x1), some (.int 7), some (.int (((r3 &&& ((y0 * 5) ^^^ (-1))) + ((r3 &&& y0) * 4)) + ((r3 &&& (y0 * 4)) / 4)))] [] s (.inl none, s6) := dt60 (by omega) hl hk_b0 hc5
  refine Q.callV (gC_vi zm102 (show zM102.2.2.2.2.2[60]? = some (86, 3, .invokevirtual 51, [0, 60, 3, 3]) from rfl) zm60 hk_b0.1 (hl.tr hk_b0).1 rfl (show aCr 3 b0 [.int (((r3 &&& ((y0 * 5) ^^^ (-1))) + ((r3 &&& y0) * 4)) + ((r3 &&& (y0 * 4)) / 4)), .int 7, .int x1, .ref b0] 4 = some ([some (.ref b0), some (.int x1), some (.int 7), some (.int (((r3 &&& ((y0 * 5) ^^^ (-1))) + ((r3 &&& y0) * 4)) + ((r3 &&& (y0 * 4)) / 4)))], []) from rfl)) hq4 ?_
  have hr7 : aK s6 b0 3 := hq4.2.1.k hk_b0
  cases h
  exact Q.ret (A.rv zm102 (show zM102.2.2.2.2.2[61]? = some (89, 1, .return_, []) from rfl) rfl) hq4.1
def dm102 (b0 : Nat) (x1 : Int32) (x2 : Int32) (s : aS) : Option (aS) :=
  bu (dm57 b0 x1 x2 s) fun r3 =>
  bu (dm57 b0 x1 (x2 + 2) s) fun r6 =>
  bu (dm60 b0 x1 x2 r6 s) fun s9 =>
  bu (dm60 b0 x1 (x2 + 2) r3 s9) fun s13 =>
  if x2 = 3 then
    dm102_28 b0 x1 1 s13
  else
    dm102_28 b0 x1 2 s13
set_option maxRecDepth 100000 in
theorem dt102 {sio : Bool} {tt : Nat} {cc : Nat → Nat → Int32} {d : Nat} (hd : 1 ≤ d) {b0 : Nat} {x1 : Int32} {x2 : Int32} {s : aS} (hl : Ly tt cc s) (hk_b0 : aK s b0 3) {o : aS} (h : dm102  b0 x1 x2 s = some o) : Q 1 sio tt cc d 102 0 [some (.ref b0), some (.int x1), some (.int x2), none, none, none, none] [] s (.inl none, o) := by
  unfold dm102 at h
  obtain ⟨d, rfl⟩ : ∃ e, d = e + 1 := ⟨d - 1, by omega⟩
  refine Q.run zm102 3 (i' := 3) (ls' := [some (.ref b0), some (.int x1), some (.int x2), none, none, none, none]) (st' := [.int x2, .int x1, .ref b0]) rfl ?_
  obtain ⟨r3, hc2, h⟩ := bu_so h
  have hq1 : Q 1 sio tt cc d 57 0 [some (.ref b0), some (.int x1), some (.int x2), none] [] s (.inl (some (.int r3)), s) := dt57 (by omega) hl hk_b0 hc2
  refine Q.callI (gC_vi zm102 (show zM102.2.2.2.2.2[3]? = some (3, 3, .invokevirtual 28, [0, 57, 2, 3]) from rfl) zm57 hk_b0.1 (hl.tr hk_b0).1 rfl (show aCr 2 b0 [.int x2, .int x1, .ref b0] 4 = some ([some (.ref b0), some (.int x1), some (.int x2), none], []) from rfl)) hq1 ?_
  refine Q.run zm102 9 (i' := 13) (ls' := [some (.ref b0), some (.int x1), some (.int x2), some (.int r3), none, none, none]) (st' := [.int (x2 + 2), .int x1, .ref b0, .int x2, .int x1, .ref b0]) rfl ?_
  obtain ⟨r6, hc5, h⟩ := bu_so h
  have hq4 : Q 1 sio tt cc d 57 0 [some (.ref b0), some (.int x1), some (.int (x2 + 2)), none] [] s (.inl (some (.int r6)), s) := dt57 (by omega) hl hk_b0 hc5
  refine Q.callI (gC_vi zm102 (show zM102.2.2.2.2.2[13]? = some (15, 3, .invokevirtual 28, [0, 57, 2, 3]) from rfl) zm57 hk_b0.1 (hl.tr hk_b0).1 rfl (show aCr 2 b0 [.int (x2 + 2), .int x1, .ref b0, .int x2, .int x1, .ref b0] 4 = some ([some (.ref b0), some (.int x1), some (.int (x2 + 2)), none], [.int x2, .int x1, .ref b0]) from rfl)) hq4 ?_
  obtain ⟨s9, hc8, h⟩ := bu_so h
  have hq7 : Q 1 sio tt cc d 60 0 [some (.ref b0), some (.int x1), some (.int x2), some (.int r6)] [] s (.inl none, s9) := dt60 (by omega) hl hk_b0 hc8
  refine Q.callV (gC_vi zm102 (show zM102.2.2.2.2.2[14]? = some (18, 3, .invokevirtual 51, [0, 60, 3, 3]) from rfl) zm60 hk_b0.1 (hl.tr hk_b0).1 rfl (show aCr 3 b0 [.int r6, .int x2, .int x1, .ref b0] 4 = some ([some (.ref b0), some (.int x1), some (.int x2), some (.int r6)], []) from rfl)) hq7 ?_
  have hr10 : aK s9 b0 3 := hq7.2.1.k hk_b0
  refine Q.run zm102 6 (i' := 21) (ls' := [some (.ref b0), some (.int x1), some (.int x2), some (.int r3), none, none, none]) (st' := [.int r3, .int (x2 + 2), .int x1, .ref b0]) rfl ?_
  obtain ⟨s13, hc12, h⟩ := bu_so h
  have hq11 : Q 1 sio tt cc d 60 0 [some (.ref b0), some (.int x1), some (.int (x2 + 2)), some (.int r3)] [] s9 (.inl none, s13) := dt60 (by omega) hq7.1 hr10 hc12
  refine Q.callV (gC_vi zm102 (show zM102.2.2.2.2.2[21]? = some (27, 3, .invokevirtual 51, [0, 60, 3, 3]) from rfl) zm60 hr10.1 (hq7.1.tr hr10).1 rfl (show aCr 3 b0 [.int r3, .int (x2 + 2), .int x1, .ref b0] 4 = some ([some (.ref b0), some (.int x1), some (.int (x2 + 2)), some (.int r3)], []) from rfl)) hq11 ?_
  have hr14 : aK s13 b0 3 := hq11.2.1.k hr10
  refine Q.run zm102 2 (i' := 24) (ls' := [some (.ref b0), some (.int x1), some (.int x2), some (.int r3), none, none, none]) (st' := [.int 3, .int x2]) rfl ?_
  by_cases hc15 : x2 = 3
  · rw [if_pos hc15] at h
    refine Q.map (A.bF (gI_of zm102 (e := (32, 3, .if_icmp .ne 7, [27])) rfl) (fun q => of_decide_eq_true q hc15)) ?_
    refine Q.run zm102 2 (i' := 28) (ls' := [some (.ref b0), some (.int x1), some (.int x2), some (.int r3), none, none, none]) (st' := [.int 1]) rfl ?_
    exact dt102_28 hd hq11.1 hr14 h
  · rw [if_neg hc15] at h
    refine Q.map (A.bT (gI_of zm102 (e := (32, 3, .if_icmp .ne 7, [27])) rfl) (decide_eq_true hc15)) ?_
    refine Q.run zm102 1 (i' := 28) (ls' := [some (.ref b0), some (.int x1), some (.int x2), some (.int r3), none, none, none]) (st' := [.int 2]) rfl ?_
    exact dt102_28 hd hq11.1 hr14 h
/-! 101 FormulaTrees$Tree.putInOrder(I)V -/
set_option maxRecDepth 100000 in
theorem zm101 : zP[101]? = some zM101 := rfl
def dm101_13 (b0 : Nat) (x1 : Int32) (s : aS) : Option (aS) :=
  bu (dm57 b0 x1 4 s) fun r3 =>
  bu (dm57 b0 x1 6 s) fun r6 =>
  if r3 ≤ r6 then
    some s
  else
    bu (dm102 b0 x1 4 s) fun s10 =>
    some s10
set_option maxRecDepth 100000 in
theorem dt101_13 {sio : Bool} {tt : Nat} {cc : Nat → Nat → Int32} {d : Nat} (hd : 2 ≤ d) {b0 : Nat} {x1 : Int32} {s : aS} (hl : Ly tt cc s) (hk_b0 : aK s b0 3) {o : aS} (h : dm101_13  b0 x1 s = some o) : Q 1 sio tt cc d 101 13 [some (.ref b0), some (.int x1)] [] s (.inl none, o) := by
  unfold dm101_13 at h
  obtain ⟨d, rfl⟩ : ∃ e, d = e + 1 := ⟨d - 1, by omega⟩
  refine Q.run zm101 3 (i' := 16) (ls' := [some (.ref b0), some (.int x1)]) (st' := [.int 4, .int x1, .ref b0]) rfl ?_
  obtain ⟨r3, hc2, h⟩ := bu_so h
  have hq1 : Q 1 sio tt cc d 57 0 [some (.ref b0), some (.int x1), some (.int 4), none] [] s (.inl (some (.int r3)), s) := dt57 (by omega) hl hk_b0 hc2
  refine Q.callI (gC_vi zm101 (show zM101.2.2.2.2.2[16]? = some (24, 3, .invokevirtual 28, [0, 57, 2, 3]) from rfl) zm57 hk_b0.1 (hl.tr hk_b0).1 rfl (show aCr 2 b0 [.int 4, .int x1, .ref b0] 4 = some ([some (.ref b0), some (.int x1), some (.int 4), none], []) from rfl)) hq1 ?_
  refine Q.run zm101 3 (i' := 20) (ls' := [some (.ref b0), some (.int x1)]) (st' := [.int 6, .int x1, .ref b0, .int r3]) rfl ?_
  obtain ⟨r6, hc5, h⟩ := bu_so h
  have hq4 : Q 1 sio tt cc d 57 0 [some (.ref b0), some (.int x1), some (.int 6), none] [] s (.inl (some (.int r6)), s) := dt57 (by omega) hl hk_b0 hc5
  refine Q.callI (gC_vi zm101 (show zM101.2.2.2.2.2[20]? = some (31, 3, .invokevirtual 28, [0, 57, 2, 3]) from rfl) zm57 hk_b0.1 (hl.tr hk_b0).1 rfl (show aCr 2 b0 [.int 6, .int x1, .ref b0, .int r3] 4 = some ([some (.ref b0), some (.int x1), some (.int 6), none], [.int r3]) from rfl)) hq4 ?_
  by_cases hc7 : r3 ≤ r6
  · rw [if_pos hc7] at h
    refine Q.map (A.bT (gI_of zm101 (e := (34, 3, .if_icmp .le 9, [26])) rfl) (decide_eq_true hc7)) ?_
    cases h
    exact Q.ret (A.rv zm101 (show zM101.2.2.2.2.2[26]? = some (43, 1, .return_, []) from rfl) rfl) hl
  · rw [if_neg hc7] at h
    refine Q.map (A.bF (gI_of zm101 (e := (34, 3, .if_icmp .le 9, [26])) rfl) (fun q => hc7 (of_decide_eq_true q))) ?_
    refine Q.run zm101 3 (i' := 25) (ls' := [some (.ref b0), some (.int x1)]) (st' := [.int 4, .int x1, .ref b0]) rfl ?_
    obtain ⟨s10, hc9, h⟩ := bu_so h
    have hq8 : Q 1 sio tt cc d 102 0 [some (.ref b0), some (.int x1), some (.int 4), none, none, none, none] [] s (.inl none, s10) := dt102 (by omega) hl hk_b0 hc9
    refine Q.callV (gC_vi zm101 (show zM101.2.2.2.2.2[25]? = some (40, 3, .invokevirtual 88, [0, 102, 2, 3]) from rfl) zm102 hk_b0.1 (hl.tr hk_b0).1 rfl (show aCr 2 b0 [.int 4, .int x1, .ref b0] 7 = some ([some (.ref b0), some (.int x1), some (.int 4), none, none, none, none], []) from rfl)) hq8 ?_
    have hr11 : aK s10 b0 3 := hq8.2.1.k hk_b0
    cases h
    exact Q.ret (A.rv zm101 (show zM101.2.2.2.2.2[26]? = some (43, 1, .return_, []) from rfl) rfl) hq8.1
def dm101 (b0 : Nat) (x1 : Int32) (s : aS) : Option (aS) :=
  bu (dm57 b0 x1 3 s) fun r3 =>
  bu (dm57 b0 x1 5 s) fun r6 =>
  if r3 ≤ r6 then
    dm101_13 b0 x1 s
  else
    bu (dm102 b0 x1 3 s) fun s10 =>
    dm101_13 b0 x1 s10
set_option maxRecDepth 100000 in
theorem dt101 {sio : Bool} {tt : Nat} {cc : Nat → Nat → Int32} {d : Nat} (hd : 2 ≤ d) {b0 : Nat} {x1 : Int32} {s : aS} (hl : Ly tt cc s) (hk_b0 : aK s b0 3) {o : aS} (h : dm101  b0 x1 s = some o) : Q 1 sio tt cc d 101 0 [some (.ref b0), some (.int x1)] [] s (.inl none, o) := by
  unfold dm101 at h
  obtain ⟨d, rfl⟩ : ∃ e, d = e + 1 := ⟨d - 1, by omega⟩
  refine Q.run zm101 3 (i' := 3) (ls' := [some (.ref b0), some (.int x1)]) (st' := [.int 3, .int x1, .ref b0]) rfl ?_
  obtain ⟨r3, hc2, h⟩ := bu_so h
  have hq1 : Q 1 sio tt cc d 57 0 [some (.ref b0), some (.int x1), some (.int 3), none] [] s (.inl (some (.int r3)), s) := dt57 (by omega) hl hk_b0 hc2
  refine Q.callI (gC_vi zm101 (show zM101.2.2.2.2.2[3]? = some (3, 3, .invokevirtual 28, [0, 57, 2, 3]) from rfl) zm57 hk_b0.1 (hl.tr hk_b0).1 rfl (show aCr 2 b0 [.int 3, .int x1, .ref b0] 4 = some ([some (.ref b0), some (.int x1), some (.int 3), none], []) from rfl)) hq1 ?_
  refine Q.run zm101 3 (i' := 7) (ls' := [some (.ref b0), some (.int x1)]) (st' := [.int 5, .int x1, .ref b0, .int r3]) rfl ?_
  obtain ⟨r6, hc5, h⟩ := bu_so h
  have hq4 : Q 1 sio tt cc d 57 0 [some (.ref b0), some (.int x1), some (.int 5), none] [] s (.inl (some (.int r6)), s) := dt57 (by omega) hl hk_b0 hc5
  refine Q.callI (gC_vi zm101 (show zM101.2.2.2.2.2[7]? = some (9, 3, .invokevirtual 28, [0, 57, 2, 3]) from rfl) zm57 hk_b0.1 (hl.tr hk_b0).1 rfl (show aCr 2 b0 [.int 5, .int x1, .ref b0, .int r3] 4 = some ([some (.ref b0), some (.int x1), some (.int 5), none], [.int r3]) from rfl)) hq4 ?_
  by_cases hc7 : r3 ≤ r6
  · rw [if_pos hc7] at h
    refine Q.map (A.bT (gI_of zm101 (e := (12, 3, .if_icmp .le 9, [13])) rfl) (decide_eq_true hc7)) ?_
    exact dt101_13 hd hl hk_b0 h
  · rw [if_neg hc7] at h
    refine Q.map (A.bF (gI_of zm101 (e := (12, 3, .if_icmp .le 9, [13])) rfl) (fun q => hc7 (of_decide_eq_true q))) ?_
    refine Q.run zm101 3 (i' := 12) (ls' := [some (.ref b0), some (.int x1)]) (st' := [.int 3, .int x1, .ref b0]) rfl ?_
    obtain ⟨s10, hc9, h⟩ := bu_so h
    have hq8 : Q 1 sio tt cc d 102 0 [some (.ref b0), some (.int x1), some (.int 3), none, none, none, none] [] s (.inl none, s10) := dt102 (by omega) hl hk_b0 hc9
    refine Q.callV (gC_vi zm101 (show zM101.2.2.2.2.2[12]? = some (18, 3, .invokevirtual 88, [0, 102, 2, 3]) from rfl) zm102 hk_b0.1 (hl.tr hk_b0).1 rfl (show aCr 2 b0 [.int 3, .int x1, .ref b0] 7 = some ([some (.ref b0), some (.int x1), some (.int 3), none, none, none, none], []) from rfl)) hq8 ?_
    have hr11 : aK s10 b0 3 := hq8.2.1.k hk_b0
    exact dt101_13 hd hq8.1 hr11 h
/-! 100 FormulaTrees$Tree.becomeRange(ILFormulaTrees$CellReader;)V -/
set_option maxRecDepth 100000 in
theorem zm100 : zP[100]? = some zM100 := rfl
def dm100 (b0 : Nat) (x1 : Int32) (s : aS) : Option (aS) :=
  bu (dm60 b0 x1 0 5 s) fun s3 =>
  bu (dm96 s3) fun r7 =>
  bu (dm60 b0 x1 5 r7 s3) fun s10 =>
  bu (dm97 s10) fun r14 =>
  bu (dm60 b0 x1 6 r14 s10) fun s17 =>
  bu (dm57 b0 x1 7 s17) fun r21 =>
  bu (dm98 s17) fun r24 =>
  bu (dm60 b0 x1 7 (r21 + (r24 * 4)) s17) fun s27 =>
  bu (dm101 b0 x1 s27) fun s31 =>
  some s31
set_option maxRecDepth 100000 in
theorem dt100 {sio : Bool} {tt : Nat} {cc : Nat → Nat → Int32} {d : Nat} (hd : 3 ≤ d) {b0 : Nat} {x1 : Int32} {s : aS} (hl : Ly tt cc s) (hk_b0 : aK s b0 3) {o : aS} (h : dm100  b0 x1 s = some o) : Q 1 sio tt cc d 100 0 [some (.ref b0), some (.int x1), some (.ref 109)] [] s (.inl none, o) := by
  unfold dm100 at h
  obtain ⟨d, rfl⟩ : ∃ e, d = e + 1 := ⟨d - 1, by omega⟩
  refine Q.run zm100 4 (i' := 4) (ls' := [some (.ref b0), some (.int x1), some (.ref 109)]) (st' := [.int 5, .int 0, .int x1, .ref b0]) rfl ?_
  obtain ⟨s3, hc2, h⟩ := bu_so h
  have hq1 : Q 1 sio tt cc d 60 0 [some (.ref b0), some (.int x1), some (.int 0), some (.int 5)] [] s (.inl none, s3) := dt60 (by omega) hl hk_b0 hc2
  refine Q.callV (gC_vi zm100 (show zM100.2.2.2.2.2[4]? = some (4, 3, .invokevirtual 51, [0, 60, 3, 3]) from rfl) zm60 hk_b0.1 (hl.tr hk_b0).1 rfl (show aCr 3 b0 [.int 5, .int 0, .int x1, .ref b0] 4 = some ([some (.ref b0), some (.int x1), some (.int 0), some (.int 5)], []) from rfl)) hq1 ?_
  have hr4 : aK s3 b0 3 := hq1.2.1.k hk_b0
  refine Q.run zm100 4 (i' := 9) (ls' := [some (.ref b0), some (.int x1), some (.ref 109)]) (st' := [.ref 109, .int 5, .int x1, .ref b0]) rfl ?_
  obtain ⟨r7, hc6, h⟩ := bu_so h
  have hq5 : Q 1 sio tt cc d 96 0 [some (.ref 109)] [] s3 (.inl (some (.int r7)), s3) := dt96 (by omega) hq1.1  hc6
  refine Q.callI (gC_vi zm100 (show zM100.2.2.2.2.2[9]? = some (11, 3, .invokevirtual 74, [0, 96, 0, 5]) from rfl) zm96 (hq1.1.lt (a := 109) (by decide)) (hq1.1.T (a := 109) (p := (5, 4)) 31 rfl rfl) rfl (show aCr 0 109 [.ref 109, .int 5, .int x1, .ref b0] 1 = some ([some (.ref 109)], [.int 5, .int x1, .ref b0]) from rfl)) hq5 ?_
  obtain ⟨s10, hc9, h⟩ := bu_so h
  have hq8 : Q 1 sio tt cc d 60 0 [some (.ref b0), some (.int x1), some (.int 5), some (.int r7)] [] s3 (.inl none, s10) := dt60 (by omega) hq1.1 hr4 hc9
  refine Q.callV (gC_vi zm100 (show zM100.2.2.2.2.2[10]? = some (14, 3, .invokevirtual 51, [0, 60, 3, 3]) from rfl) zm60 hr4.1 (hq1.1.tr hr4).1 rfl (show aCr 3 b0 [.int r7, .int 5, .int x1, .ref b0] 4 = some ([some (.ref b0), some (.int x1), some (.int 5), some (.int r7)], []) from rfl)) hq8 ?_
  have hr11 : aK s10 b0 3 := hq8.2.1.k hr4
  refine Q.run zm100 4 (i' := 15) (ls' := [some (.ref b0), some (.int x1), some (.ref 109)]) (st' := [.ref 109, .int 6, .int x1, .ref b0]) rfl ?_
  obtain ⟨r14, hc13, h⟩ := bu_so h
  have hq12 : Q 1 sio tt cc d 97 0 [some (.ref 109)] [] s10 (.inl (some (.int r14)), s10) := dt97 (by omega) hq8.1  hc13
  refine Q.callI (gC_vi zm100 (show zM100.2.2.2.2.2[15]? = some (22, 3, .invokevirtual 79, [0, 97, 0, 5]) from rfl) zm97 (hq8.1.lt (a := 109) (by decide)) (hq8.1.T (a := 109) (p := (5, 4)) 31 rfl rfl) rfl (show aCr 0 109 [.ref 109, .int 6, .int x1, .ref b0] 1 = some ([some (.ref 109)], [.int 6, .int x1, .ref b0]) from rfl)) hq12 ?_
  obtain ⟨s17, hc16, h⟩ := bu_so h
  have hq15 : Q 1 sio tt cc d 60 0 [some (.ref b0), some (.int x1), some (.int 6), some (.int r14)] [] s10 (.inl none, s17) := dt60 (by omega) hq8.1 hr11 hc16
  refine Q.callV (gC_vi zm100 (show zM100.2.2.2.2.2[16]? = some (25, 3, .invokevirtual 51, [0, 60, 3, 3]) from rfl) zm60 hr11.1 (hq8.1.tr hr11).1 rfl (show aCr 3 b0 [.int r14, .int 6, .int x1, .ref b0] 4 = some ([some (.ref b0), some (.int x1), some (.int 6), some (.int r14)], []) from rfl)) hq15 ?_
  have hr18 : aK s17 b0 3 := hq15.2.1.k hr11
  refine Q.run zm100 6 (i' := 23) (ls' := [some (.ref b0), some (.int x1), some (.ref 109)]) (st' := [.int 7, .int x1, .ref b0, .int 7, .int x1, .ref b0]) rfl ?_
  obtain ⟨r21, hc20, h⟩ := bu_so h
  have hq19 : Q 1 sio tt cc d 57 0 [some (.ref b0), some (.int x1), some (.int 7), none] [] s17 (.inl (some (.int r21)), s17) := dt57 (by omega) hq15.1 hr18 hc20
  refine Q.callI (gC_vi zm100 (show zM100.2.2.2.2.2[23]? = some (36, 3, .invokevirtual 28, [0, 57, 2, 3]) from rfl) zm57 hr18.1 (hq15.1.tr hr18).1 rfl (show aCr 2 b0 [.int 7, .int x1, .ref b0, .int 7, .int x1, .ref b0] 4 = some ([some (.ref b0), some (.int x1), some (.int 7), none], [.int 7, .int x1, .ref b0]) from rfl)) hq19 ?_
  refine Q.run zm100 1 (i' := 25) (ls' := [some (.ref b0), some (.int x1), some (.ref 109)]) (st' := [.ref 109, .int r21, .int 7, .int x1, .ref b0]) rfl ?_
  obtain ⟨r24, hc23, h⟩ := bu_so h
  have hq22 : Q 1 sio tt cc d 98 0 [some (.ref 109)] [] s17 (.inl (some (.int r24)), s17) := dt98 (by omega) hq15.1  hc23
  refine Q.callI (gC_vi zm100 (show zM100.2.2.2.2.2[25]? = some (40, 3, .invokevirtual 82, [0, 98, 0, 5]) from rfl) zm98 (hq15.1.lt (a := 109) (by decide)) (hq15.1.T (a := 109) (p := (5, 4)) 31 rfl rfl) rfl (show aCr 0 109 [.ref 109, .int r21, .int 7, .int x1, .ref b0] 1 = some ([some (.ref 109)], [.int r21, .int 7, .int x1, .ref b0]) from rfl)) hq22 ?_
  refine Q.run zm100 3 (i' := 29) (ls' := [some (.ref b0), some (.int x1), some (.ref 109)]) (st' := [.int (r21 + (r24 * 4)), .int 7, .int x1, .ref b0]) rfl ?_
  obtain ⟨s27, hc26, h⟩ := bu_so h
  have hq25 : Q 1 sio tt cc d 60 0 [some (.ref b0), some (.int x1), some (.int 7), some (.int (r21 + (r24 * 4)))] [] s17 (.inl none, s27) := dt60 (by omega) hq15.1 hr18 hc26
  refine Q.callV (gC_vi zm100 (show zM100.2.2.2.2.2[29]? = some (46, 3, .invokevirtual 51, [0, 60, 3, 3]) from rfl) zm60 hr18.1 (hq15.1.tr hr18).1 rfl (show aCr 3 b0 [.int (r21 + (r24 * 4)), .int 7, .int x1, .ref b0] 4 = some ([some (.ref b0), some (.int x1), some (.int 7), some (.int (r21 + (r24 * 4)))], []) from rfl)) hq25 ?_
  have hr28 : aK s27 b0 3 := hq25.2.1.k hr18
  refine Q.run zm100 2 (i' := 32) (ls' := [some (.ref b0), some (.int x1), some (.ref 109)]) (st' := [.int x1, .ref b0]) rfl ?_
  obtain ⟨s31, hc30, h⟩ := bu_so h
  have hq29 : Q 1 sio tt cc d 101 0 [some (.ref b0), some (.int x1)] [] s27 (.inl none, s31) := dt101 (by omega) hq25.1 hr28 hc30
  refine Q.callV (gC_vi zm100 (show zM100.2.2.2.2.2[32]? = some (51, 3, .invokevirtual 85, [0, 101, 1, 3]) from rfl) zm101 hr28.1 (hq25.1.tr hr28).1 rfl (show aCr 1 b0 [.int x1, .ref b0] 2 = some ([some (.ref b0), some (.int x1)], []) from rfl)) hq29 ?_
  have hr32 : aK s31 b0 3 := hq29.2.1.k hr28
  cases h
  exact Q.ret (A.rv zm100 (show zM100.2.2.2.2.2[33]? = some (54, 1, .return_, []) from rfl) rfl) hq29.1
/-! 99 FormulaTrees$Reader.readRangeEnd()V -/
set_option maxRecDepth 100000 in
theorem zm99 : zP[99]? = some zM99 := rfl
def dm99 (s : aS) : Option (aS) :=
  bv (dm89 79 (sI s 106 7) s) fun r4 s3 =>
  if r4 = 0 then
    bu (dm93 s3) fun r8 =>
    nx (wI s3 106 8 r8) fun s9 =>
    some s9
  else
    vN (sR s3 106 6) (
      none
    ) fun b13 =>
      if aK s3 b13 3 then
        bu (dm100 b13 (sI s3 106 10) s3) fun s17 =>
        nx (wI s17 106 9 4) fun s19 =>
        bu (dm93 s19) fun r25 =>
        nx (wI s19 106 7 r25) fun s26 =>
        some s26
      else none
set_option maxRecDepth 100000 in
theorem dt99 {sio : Bool} {tt : Nat} {cc : Nat → Nat → Int32} {d : Nat} (hd : 4 ≤ d) {s : aS} (hl : Ly tt cc s) {o : aS} (h : dm99  s = some o) : Q 1 sio tt cc d 99 0 [some (.ref 106)] [] s (.inl none, o) := by
  unfold dm99 at h
  obtain ⟨d, rfl⟩ : ∃ e, d = e + 1 := ⟨d - 1, by omega⟩
  refine Q.run zm99 1 (i' := 1) (ls' := [some (.ref 106)]) (st' := [.ref 106]) rfl ?_
  refine Q.map (A.gf (gI_of zm99 (e := (1, 3, .getfield 23, [4, 3])) rfl) (hl.lt (a := 106) (by decide)) (hl.T (a := 106) (p := (4, 13)) 28 rfl rfl) (by decide) (hl.R 11 rfl)) ?_
  refine Q.run zm99 1 (i' := 3) (ls' := [some (.ref 106)]) (st' := [.ref 106, .ref 109]) rfl ?_
  refine Q.map (A.gf (gI_of zm99 (e := (5, 3, .getfield 41, [4, 0])) rfl) (hl.lt (a := 106) (by decide)) (hl.T (a := 106) (p := (4, 13)) 28 rfl rfl) (by decide) (hl.R 8 rfl)) ?_
  refine Q.run zm99 1 (i' := 5) (ls' := [some (.ref 106)]) (st' := [.ref 106, .ref 79, .ref 109]) rfl ?_
  refine Q.map (A.gf (gI_of zm99 (e := (9, 3, .getfield 61, [4, 7])) rfl) (hl.lt (a := 106) (by decide)) (hl.T (a := 106) (p := (4, 13)) 28 rfl rfl) (by decide) rfl) ?_
  obtain ⟨r4, s3, hc2, h⟩ := bv_so h
  have hq1 : Q 1 sio tt cc d 89 0 [some (.ref 109), some (.ref 79), some (.int (sI s 106 7))] [] s (.inl (some (.int r4)), s3) := dt89 (by omega) hl (hl.Kd (a := 79) (c := 1) (n := 2) 1 rfl rfl (by decide)) hc2
  refine Q.callI (gC_vi zm99 (show zM99.2.2.2.2.2[6]? = some (12, 3, .invokevirtual 251, [0, 89, 2, 5]) from rfl) zm89 (hl.lt (a := 109) (by decide)) (hl.T (a := 109) (p := (5, 4)) 31 rfl rfl) rfl (show aCr 2 109 [.int (sI s 106 7), .ref 79, .ref 109] 3 = some ([some (.ref 109), some (.ref 79), some (.int (sI s 106 7))], []) from rfl)) hq1 ?_
  by_cases hc5 : r4 = 0
  · rw [if_pos hc5] at h
    refine Q.map (A.zT (gI_of zm99 (e := (15, 3, .ifCond .eq 37, [24])) rfl) (decide_eq_true hc5)) ?_
    refine Q.run zm99 2 (i' := 26) (ls' := [some (.ref 106)]) (st' := [.ref 106, .ref 106]) rfl ?_
    refine Q.map (A.gf (gI_of zm99 (e := (54, 3, .getfield 23, [4, 3])) rfl) (hq1.1.lt (a := 106) (by decide)) (hq1.1.T (a := 106) (p := (4, 13)) 28 rfl rfl) (by decide) (hq1.1.R 11 rfl)) ?_
    obtain ⟨r8, hc7, h⟩ := bu_so h
    have hq6 : Q 1 sio tt cc d 93 0 [some (.ref 109)] [] s3 (.inl (some (.int r8)), s3) := dt93 (by omega) hq1.1  hc7
    refine Q.callI (gC_vi zm99 (show zM99.2.2.2.2.2[27]? = some (57, 3, .invokevirtual 255, [0, 93, 0, 5]) from rfl) zm93 (hq1.1.lt (a := 109) (by decide)) (hq1.1.T (a := 109) (p := (5, 4)) 31 rfl rfl) rfl (show aCr 0 109 [.ref 109, .ref 106] 1 = some ([some (.ref 109)], [.ref 106]) from rfl)) hq6 ?_
    obtain ⟨s9, hs10, h⟩ := nx_so h
    refine Q.pf hs10 rfl (gI_of zm99 (e := (60, 3, .putfield 65, [4, 8, 0])) rfl) (hq1.1.lt (a := 106) (by decide)) (by decide) (hq1.1.T (a := 106) (p := (4, 13)) 28 rfl rfl) (by decide) rfl rfl ?_
    have hl11 : Ly tt cc s9 := by rw [hs10]; exact hq1.1.wId (by decide)
    cases h
    exact Q.ret (A.rv zm99 (show zM99.2.2.2.2.2[29]? = some (63, 1, .return_, []) from rfl) rfl) hl11
  · rw [if_neg hc5] at h
    refine Q.map (A.zF (gI_of zm99 (e := (15, 3, .ifCond .eq 37, [24])) rfl) (fun q => hc5 (of_decide_eq_true q))) ?_
    refine Q.run zm99 1 (i' := 9) (ls' := [some (.ref 106)]) (st' := [.ref 106]) rfl ?_
    rcases vN_so h with ⟨hv12, h⟩ | ⟨b13, hv12, h⟩
    · refine Q.map (A.gf (gI_of zm99 (e := (19, 3, .getfield 48, [4, 6])) rfl) (hq1.1.lt (a := 106) (by decide)) (hq1.1.T (a := 106) (p := (4, 13)) 28 rfl rfl) (by decide) hv12) ?_
      refine Q.run zm99 1 (i' := 11) (ls' := [some (.ref 106)]) (st' := [.ref 106, .null]) rfl ?_
      refine Q.map (A.gf (gI_of zm99 (e := (23, 3, .getfield 100, [4, 10])) rfl) (hq1.1.lt (a := 106) (by decide)) (hq1.1.T (a := 106) (p := (4, 13)) 28 rfl rfl) (by decide) rfl) ?_
      refine Q.run zm99 1 (i' := 13) (ls' := [some (.ref 106)]) (st' := [.ref 106, .int (sI s3 106 10), .null]) rfl ?_
      refine Q.map (A.gf (gI_of zm99 (e := (27, 3, .getfield 23, [4, 3])) rfl) (hq1.1.lt (a := 106) (by decide)) (hq1.1.T (a := 106) (p := (4, 13)) 28 rfl rfl) (by decide) (hq1.1.R 11 rfl)) ?_
      cases h
    · obtain ⟨hr14, h⟩ := ite_so h
      refine Q.map (A.gf (gI_of zm99 (e := (19, 3, .getfield 48, [4, 6])) rfl) (hq1.1.lt (a := 106) (by decide)) (hq1.1.T (a := 106) (p := (4, 13)) 28 rfl rfl) (by decide) hv12) ?_
      refine Q.run zm99 1 (i' := 11) (ls' := [some (.ref 106)]) (st' := [.ref 106, .ref b13]) rfl ?_
      refine Q.map (A.gf (gI_of zm99 (e := (23, 3, .getfield 100, [4, 10])) rfl) (hq1.1.lt (a := 106) (by decide)) (hq1.1.T (a := 106) (p := (4, 13)) 28 rfl rfl) (by decide) rfl) ?_
      refine Q.run zm99 1 (i' := 13) (ls' := [some (.ref 106)]) (st' := [.ref 106, .int (sI s3 106 10), .ref b13]) rfl ?_
      refine Q.map (A.gf (gI_of zm99 (e := (27, 3, .getfield 23, [4, 3])) rfl) (hq1.1.lt (a := 106) (by decide)) (hq1.1.T (a := 106) (p := (4, 13)) 28 rfl rfl) (by decide) (hq1.1.R 11 rfl)) ?_
      obtain ⟨s17, hc16, h⟩ := bu_so h
      have hq15 : Q 1 sio tt cc d 100 0 [some (.ref b13), some (.int (sI s3 106 10)), some (.ref 109)] [] s3 (.inl none, s17) := dt100 (by omega) hq1.1 hr14 hc16
      refine Q.callV (gC_vi zm99 (show zM99.2.2.2.2.2[14]? = some (30, 3, .invokevirtual 281, [0, 100, 2, 3]) from rfl) zm100 hr14.1 (hq1.1.tr hr14).1 rfl (show aCr 2 b13 [.ref 109, .int (sI s3 106 10), .ref b13] 3 = some ([some (.ref b13), some (.int (sI s3 106 10)), some (.ref 109)], []) from rfl)) hq15 ?_
      have hr18 : aK s17 b13 3 := hq15.2.1.k hr14
      refine Q.run zm99 2 (i' := 17) (ls' := [some (.ref 106)]) (st' := [.int 4, .ref 106]) rfl ?_
      obtain ⟨s19, hs20, h⟩ := nx_so h
      refine Q.pf hs20 rfl (gI_of zm99 (e := (35, 3, .putfield 68, [4, 9, 0])) rfl) (hq15.1.lt (a := 106) (by decide)) (by decide) (hq15.1.T (a := 106) (p := (4, 13)) 28 rfl rfl) (by decide) rfl rfl ?_
      have hl21 : Ly tt cc s19 := by rw [hs20]; exact hq15.1.wId (by decide)
      have hr22 : aK s19 b13 3 := by rw [hs20]; exact hr18
      refine Q.run zm99 2 (i' := 20) (ls' := [some (.ref 106)]) (st' := [.ref 106, .ref 106]) rfl ?_
      refine Q.map (A.gf (gI_of zm99 (e := (40, 3, .getfield 23, [4, 3])) rfl) (hl21.lt (a := 106) (by decide)) (hl21.T (a := 106) (p := (4, 13)) 28 rfl rfl) (by decide) (hl21.R 11 rfl)) ?_
      obtain ⟨r25, hc24, h⟩ := bu_so h
      have hq23 : Q 1 sio tt cc d 93 0 [some (.ref 109)] [] s19 (.inl (some (.int r25)), s19) := dt93 (by omega) hl21  hc24
      refine Q.callI (gC_vi zm99 (show zM99.2.2.2.2.2[21]? = some (43, 3, .invokevirtual 255, [0, 93, 0, 5]) from rfl) zm93 (hl21.lt (a := 109) (by decide)) (hl21.T (a := 109) (p := (5, 4)) 31 rfl rfl) rfl (show aCr 0 109 [.ref 109, .ref 106] 1 = some ([some (.ref 109)], [.ref 106]) from rfl)) hq23 ?_
      obtain ⟨s26, hs27, h⟩ := nx_so h
      refine Q.pf hs27 rfl (gI_of zm99 (e := (46, 3, .putfield 61, [4, 7, 0])) rfl) (hl21.lt (a := 106) (by decide)) (by decide) (hl21.T (a := 106) (p := (4, 13)) 28 rfl rfl) (by decide) rfl rfl ?_
      have hl28 : Ly tt cc s26 := by rw [hs27]; exact hl21.wId (by decide)
      have hr29 : aK s26 b13 3 := by rw [hs27]; exact hr22
      refine Q.run zm99 1 (i' := 29) (ls' := [some (.ref 106)]) (st' := []) rfl ?_
      cases h
      exact Q.ret (A.rv zm99 (show zM99.2.2.2.2.2[29]? = some (63, 1, .return_, []) from rfl) rfl) hl28
/-! 105 FormulaTrees$Reader.holdQuoted(I)Z -/
set_option maxRecDepth 100000 in
theorem zm105 : zP[105]? = some zM105 := rfl
def dm105_65 (k11 : Int32 → Int32 → aS → Option (Int32 × aS)) (x1 : Int32) (x2 : Int32) (y1 : Int32) (y2 : Int32) (s : aS) : Option (Int32 × aS) :=
  nx (wI s 106 7 (y1 + y2)) fun s1 =>
  k11 x1 x2 s1
set_option maxRecDepth 100000 in
theorem dt105_65 {sio : Bool} {tt : Nat} {cc : Nat → Nat → Int32} {d : Nat} (hd : 1 ≤ d) {k11 : Int32 → Int32 → aS → Option (Int32 × aS)} (hk11 : ∀ {x1 : Int32} {x2 : Int32} {g3 : Option Value} {s : aS}, Ly tt cc s → ∀ {o : Int32 × aS}, k11 x1 x2 s = some o → Q 1 sio tt cc d 105 11 [some (.ref 106), some (.int x1), some (.int x2), g3] [] s (.inl (some (.int o.1)), o.2)) {x1 : Int32} {x2 : Int32} {y1 : Int32} {y2 : Int32} {x3 : Int32} {s : aS} (hl : Ly tt cc s) {o : Int32 × aS} (h : dm105_65 k11 x1 x2 y1 y2 s = some o) : Q 1 sio tt cc d 105 65 [some (.ref 106), some (.int x1), some (.int x2), some (.int x3)] [.int y2, .int y1, .ref 106] s (.inl (some (.int o.1)), o.2) := by
  unfold dm105_65 at h
  obtain ⟨d, rfl⟩ : ∃ e, d = e + 1 := ⟨d - 1, by omega⟩
  refine Q.run zm105 1 (i' := 66) (ls' := [some (.ref 106), some (.int x1), some (.int x2), some (.int x3)]) (st' := [.int (y1 + y2), .ref 106]) rfl ?_
  obtain ⟨s1, hs2, h⟩ := nx_so h
  refine Q.pf hs2 rfl (gI_of zm105 (e := (126, 3, .putfield 61, [4, 7, 0])) rfl) (hl.lt (a := 106) (by decide)) (by decide) (hl.T (a := 106) (p := (4, 13)) 28 rfl rfl) (by decide) rfl rfl ?_
  have hl3 : Ly tt cc s1 := by rw [hs2]; exact hl.wId (by decide)
  refine Q.run zm105 1 (i' := 11) (ls' := [some (.ref 106), some (.int x1), some (.int x2), some (.int x3)]) (st' := []) rfl ?_
  exact hk11 hl3  h
def dm105_64 (k11 : Int32 → Int32 → aS → Option (Int32 × aS)) (x1 : Int32) (x2 : Int32) (y1 : Int32) (s : aS) : Option (Int32 × aS) :=
  dm105_65 k11 x1 x2 y1 1 s
set_option maxRecDepth 100000 in
theorem dt105_64 {sio : Bool} {tt : Nat} {cc : Nat → Nat → Int32} {d : Nat} (hd : 1 ≤ d) {k11 : Int32 → Int32 → aS → Option (Int32 × aS)} (hk11 : ∀ {x1 : Int32} {x2 : Int32} {g3 : Option Value} {s : aS}, Ly tt cc s → ∀ {o : Int32 × aS}, k11 x1 x2 s = some o → Q 1 sio tt cc d 105 11 [some (.ref 106), some (.int x1), some (.int x2), g3] [] s (.inl (some (.int o.1)), o.2)) {x1 : Int32} {x2 : Int32} {y1 : Int32} {x3 : Int32} {s : aS} (hl : Ly tt cc s) {o : Int32 × aS} (h : dm105_64 k11 x1 x2 y1 s = some o) : Q 1 sio tt cc d 105 64 [some (.ref 106), some (.int x1), some (.int x2), some (.int x3)] [.int y1, .ref 106] s (.inl (some (.int o.1)), o.2) := by
  unfold dm105_64 at h
  obtain ⟨d, rfl⟩ : ∃ e, d = e + 1 := ⟨d - 1, by omega⟩
  refine Q.run zm105 1 (i' := 65) (ls' := [some (.ref 106), some (.int x1), some (.int x2), some (.int x3)]) (st' := [.int 1, .int y1, .ref 106]) rfl ?_
  exact dt105_65 hd hk11 hl  h
def dm105_55 (k11 : Int32 → Int32 → aS → Option (Int32 × aS)) (x1 : Int32) (x2 : Int32) (x3 : Int32) (s : aS) : Option (Int32 × aS) :=
  if x3 = 0 then
    dm105_64 k11 x1 x2 (sI s 106 7) s
  else
    if x2 = 0 then
      dm105_65 k11 x1 x2 (sI s 106 7) 2 s
    else
      dm105_64 k11 x1 x2 (sI s 106 7) s
set_option maxRecDepth 100000 in
theorem dt105_55 {sio : Bool} {tt : Nat} {cc : Nat → Nat → Int32} {d : Nat} (hd : 1 ≤ d) {k11 : Int32 → Int32 → aS → Option (Int32 × aS)} (hk11 : ∀ {x1 : Int32} {x2 : Int32} {g3 : Option Value} {s : aS}, Ly tt cc s → ∀ {o : Int32 × aS}, k11 x1 x2 s = some o → Q 1 sio tt cc d 105 11 [some (.ref 106), some (.int x1), some (.int x2), g3] [] s (.inl (some (.int o.1)), o.2)) {x1 : Int32} {x2 : Int32} {x3 : Int32} {s : aS} (hl : Ly tt cc s) {o : Int32 × aS} (h : dm105_55 k11 x1 x2 x3 s = some o) : Q 1 sio tt cc d 105 55 [some (.ref 106), some (.int x1), some (.int x2), some (.int x3)] [] s (.inl (some (.int o.1)), o.2) := by
  unfold dm105_55 at h
  obtain ⟨d, rfl⟩ : ∃ e, d = e + 1 := ⟨d - 1, by omega⟩
  refine Q.run zm105 2 (i' := 57) (ls' := [some (.ref 106), some (.int x1), some (.int x2), some (.int x3)]) (st' := [.ref 106, .ref 106]) rfl ?_
  refine Q.map (A.gf (gI_of zm105 (e := (109, 3, .getfield 61, [4, 7])) rfl) (hl.lt (a := 106) (by decide)) (hl.T (a := 106) (p := (4, 13)) 28 rfl rfl) (by decide) rfl) ?_
  refine Q.run zm105 1 (i' := 59) (ls' := [some (.ref 106), some (.int x1), some (.int x2), some (.int x3)]) (st' := [.int x3, .int (sI s 106 7), .ref 106]) rfl ?_
  by_cases hc1 : x3 = 0
  · rw [if_pos hc1] at h
    refine Q.map (A.zT (gI_of zm105 (e := (113, 3, .ifCond .eq 11, [64])) rfl) (decide_eq_true hc1)) ?_
    exact dt105_64 hd hk11 hl  h
  · rw [if_neg hc1] at h
    refine Q.map (A.zF (gI_of zm105 (e := (113, 3, .ifCond .eq 11, [64])) rfl) (fun q => hc1 (of_decide_eq_true q))) ?_
    refine Q.run zm105 1 (i' := 61) (ls' := [some (.ref 106), some (.int x1), some (.int x2), some (.int x3)]) (st' := [.int x2, .int (sI s 106 7), .ref 106]) rfl ?_
    by_cases hc2 : x2 = 0
    · rw [if_pos hc2] at h
      refine Q.map (A.zF (gI_of zm105 (e := (117, 3, .ifCond .ne 7, [64])) rfl) (fun q => of_decide_eq_true q hc2)) ?_
      refine Q.run zm105 2 (i' := 65) (ls' := [some (.ref 106), some (.int x1), some (.int x2), some (.int x3)]) (st' := [.int 2, .int (sI s 106 7), .ref 106]) rfl ?_
      exact dt105_65 hd hk11 hl  h
    · rw [if_neg hc2] at h
      refine Q.map (A.zT (gI_of zm105 (e := (117, 3, .ifCond .ne 7, [64])) rfl) (decide_eq_true hc2)) ?_
      exact dt105_64 hd hk11 hl  h
def dm105_44 (k11 : Int32 → Int32 → aS → Option (Int32 × aS)) (x1 : Int32) (x3 : Int32) (y0 : Int32) (s : aS) : Option (Int32 × aS) :=
  if y0 = 0 then
    bu (dm34 79 (sI s 106 7) s) fun r4 =>
    bu (dm29 107 r4 s) fun s7 =>
    dm105_55 k11 x1 y0 x3 s7
  else
    dm105_55 k11 x1 y0 x3 s
set_option maxRecDepth 100000 in
theorem dt105_44 {sio : Bool} {tt : Nat} {cc : Nat → Nat → Int32} {d : Nat} (hd : 1 ≤ d) {k11 : Int32 → Int32 → aS → Option (Int32 × aS)} (hk11 : ∀ {x1 : Int32} {x2 : Int32} {g3 : Option Value} {s : aS}, Ly tt cc s → ∀ {o : Int32 × aS}, k11 x1 x2 s = some o → Q 1 sio tt cc d 105 11 [some (.ref 106), some (.int x1), some (.int x2), g3] [] s (.inl (some (.int o.1)), o.2)) {x1 : Int32} {x3 : Int32} {y0 : Int32} {x2 : Int32} {s : aS} (hl : Ly tt cc s) {o : Int32 × aS} (h : dm105_44 k11 x1 x3 y0 s = some o) : Q 1 sio tt cc d 105 44 [some (.ref 106), some (.int x1), some (.int x2), some (.int x3)] [.int y0] s (.inl (some (.int o.1)), o.2) := by
  unfold dm105_44 at h
  obtain ⟨d, rfl⟩ : ∃ e, d = e + 1 := ⟨d - 1, by omega⟩
  refine Q.run zm105 2 (i' := 46) (ls' := [some (.ref 106), some (.int x1), some (.int y0), some (.int x3)]) (st' := [.int y0]) rfl ?_
  by_cases hc1 : y0 = 0
  · rw [if_pos hc1] at h
    refine Q.map (A.zF (gI_of zm105 (e := (86, 3, .ifCond .ne 21, [55])) rfl) (fun q => of_decide_eq_true q hc1)) ?_
    refine Q.run zm105 1 (i' := 48) (ls' := [some (.ref 106), some (.int x1), some (.int y0), some (.int x3)]) (st' := [.ref 106]) rfl ?_
    refine Q.map (A.gf (gI_of zm105 (e := (90, 3, .getfield 14, [4, 2])) rfl) (hl.lt (a := 106) (by decide)) (hl.T (a := 106) (p := (4, 13)) 28 rfl rfl) (by decide) (hl.R 10 rfl)) ?_
    refine Q.run zm105 1 (i' := 50) (ls' := [some (.ref 106), some (.int x1), some (.int y0), some (.int x3)]) (st' := [.ref 106, .ref 107]) rfl ?_
    refine Q.map (A.gf (gI_of zm105 (e := (94, 3, .getfield 41, [4, 0])) rfl) (hl.lt (a := 106) (by decide)) (hl.T (a := 106) (p := (4, 13)) 28 rfl rfl) (by decide) (hl.R 8 rfl)) ?_
    refine Q.run zm105 1 (i' := 52) (ls' := [some (.ref 106), some (.int x1), some (.int y0), some (.int x3)]) (st' := [.ref 106, .ref 79, .ref 107]) rfl ?_
    refine Q.map (A.gf (gI_of zm105 (e := (98, 3, .getfield 61, [4, 7])) rfl) (hl.lt (a := 106) (by decide)) (hl.T (a := 106) (p := (4, 13)) 28 rfl rfl) (by decide) rfl) ?_
    obtain ⟨r4, hc3, h⟩ := bu_so h
    have hq2 : Q 1 sio tt cc d 34 0 [some (.ref 79), some (.int (sI s 106 7))] [] s (.inl (some (.int r4)), s) := dt34 (by omega) hl (hl.Kd (a := 79) (c := 1) (n := 2) 1 rfl rfl (by decide)) hc3
    refine Q.callI (gC_vi zm105 (show zM105.2.2.2.2.2[53]? = some (101, 3, .invokevirtual 78, [0, 34, 1, 1]) from rfl) zm34 (hl.lt (a := 79) (by decide)) (hl.T (a := 79) (p := (1, 2)) 1 rfl rfl) rfl (show aCr 1 79 [.int (sI s 106 7), .ref 79, .ref 107] 2 = some ([some (.ref 79), some (.int (sI s 106 7))], [.ref 107]) from rfl)) hq2 ?_
    obtain ⟨s7, hc6, h⟩ := bu_so h
    have hq5 : Q 1 sio tt cc d 29 0 [some (.ref 107), some (.int r4)] [] s (.inl none, s7) := dt29 (by omega) hl (hl.Kd (a := 107) (c := 1) (n := 2) 29 rfl rfl (by decide)) hc6
    refine Q.callV (gC_vi zm105 (show zM105.2.2.2.2.2[54]? = some (104, 3, .invokevirtual 219, [0, 29, 1, 1]) from rfl) zm29 (hl.lt (a := 107) (by decide)) (hl.T (a := 107) (p := (1, 2)) 29 rfl rfl) rfl (show aCr 1 107 [.int r4, .ref 107] 2 = some ([some (.ref 107), some (.int r4)], []) from rfl)) hq5 ?_
    exact dt105_55 hd hk11 hq5.1  h
  · rw [if_neg hc1] at h
    refine Q.map (A.zT (gI_of zm105 (e := (86, 3, .ifCond .ne 21, [55])) rfl) (decide_eq_true hc1)) ?_
    exact dt105_55 hd hk11 hl  h
def dm105_43 (k11 : Int32 → Int32 → aS → Option (Int32 × aS)) (x1 : Int32) (x3 : Int32) (s : aS) : Option (Int32 × aS) :=
  dm105_44 k11 x1 x3 0 s
set_option maxRecDepth 100000 in
theorem dt105_43 {sio : Bool} {tt : Nat} {cc : Nat → Nat → Int32} {d : Nat} (hd : 1 ≤ d) {k11 : Int32 → Int32 → aS → Option (Int32 × aS)} (hk11 : ∀ {x1 : Int32} {x2 : Int32} {g3 : Option Value} {s : aS}, Ly tt cc s → ∀ {o : Int32 × aS}, k11 x1 x2 s = some o → Q 1 sio tt cc d 105 11 [some (.ref 106), some (.int x1), some (.int x2), g3] [] s (.inl (some (.int o.1)), o.2)) {x1 : Int32} {x3 : Int32} {x2 : Int32} {s : aS} (hl : Ly tt cc s) {o : Int32 × aS} (h : dm105_43 k11 x1 x3 s = some o) : Q 1 sio tt cc d 105 43 [some (.ref 106), some (.int x1), some (.int x2), some (.int x3)] [] s (.inl (some (.int o.1)), o.2) := by
  unfold dm105_43 at h
  obtain ⟨d, rfl⟩ : ∃ e, d = e + 1 := ⟨d - 1, by omega⟩
  refine Q.run zm105 1 (i' := 44) (ls' := [some (.ref 106), some (.int x1), some (.int x2), some (.int x3)]) (st' := [.int 0]) rfl ?_
  exact dt105_44 hd hk11 hl  h
def dm105_29 (k11 : Int32 → Int32 → aS → Option (Int32 × aS)) (x1 : Int32) (y0 : Int32) (s : aS) : Option (Int32 × aS) :=
  if y0 = 0 then
    dm105_43 k11 x1 y0 s
  else
    bu (dm34 79 ((sI s 106 7) + 1) s) fun r4 =>
    if r4 = x1 then
      dm105_43 k11 x1 y0 s
    else
      dm105_44 k11 x1 y0 1 s
set_option maxRecDepth 100000 in
theorem dt105_29 {sio : Bool} {tt : Nat} {cc : Nat → Nat → Int32} {d : Nat} (hd : 1 ≤ d) {k11 : Int32 → Int32 → aS → Option (Int32 × aS)} (hk11 : ∀ {x1 : Int32} {x2 : Int32} {g3 : Option Value} {s : aS}, Ly tt cc s → ∀ {o : Int32 × aS}, k11 x1 x2 s = some o → Q 1 sio tt cc d 105 11 [some (.ref 106), some (.int x1), some (.int x2), g3] [] s (.inl (some (.int o.1)), o.2)) {x1 : Int32} {y0 : Int32} {x2 : Int32} {g3 : Option Value} {s : aS} (hl : Ly tt cc s) {o : Int32 × aS} (h : dm105_29 k11 x1 y0 s = some o) : Q 1 sio tt cc d 105 29 [some (.ref 106), some (.int x1), some (.int x2), g3] [.int y0] s (.inl (some (.int o.1)), o.2) := by
  unfold dm105_29 at h
  obtain ⟨d, rfl⟩ : ∃ e, d = e + 1 := ⟨d - 1, by omega⟩
  refine Q.run zm105 2 (i' := 31) (ls' := [some (.ref 106), some (.int x1), some (.int x2), some (.int y0)]) (st' := [.int y0]) rfl ?_
  by_cases hc1 : y0 = 0
  · rw [if_pos hc1] at h
    refine Q.map (A.zT (gI_of zm105 (e := (59, 3, .ifCond .eq 24, [43])) rfl) (decide_eq_true hc1)) ?_
    exact dt105_43 hd hk11 hl  h
  · rw [if_neg hc1] at h
    refine Q.map (A.zF (gI_of zm105 (e := (59, 3, .ifCond .eq 24, [43])) rfl) (fun q => hc1 (of_decide_eq_true q))) ?_
    refine Q.run zm105 1 (i' := 33) (ls' := [some (.ref 106), some (.int x1), some (.int x2), some (.int y0)]) (st' := [.ref 106]) rfl ?_
    refine Q.map (A.gf (gI_of zm105 (e := (63, 3, .getfield 41, [4, 0])) rfl) (hl.lt (a := 106) (by decide)) (hl.T (a := 106) (p := (4, 13)) 28 rfl rfl) (by decide) (hl.R 8 rfl)) ?_
    refine Q.run zm105 1 (i' := 35) (ls' := [some (.ref 106), some (.int x1), some (.int x2), some (.int y0)]) (st' := [.ref 106, .ref 79]) rfl ?_
    refine Q.map (A.gf (gI_of zm105 (e := (67, 3, .getfield 61, [4, 7])) rfl) (hl.lt (a := 106) (by decide)) (hl.T (a := 106) (p := (4, 13)) 28 rfl rfl) (by decide) rfl) ?_
    refine Q.run zm105 2 (i' := 38) (ls' := [some (.ref 106), some (.int x1), some (.int x2), some (.int y0)]) (st' := [.int ((sI s 106 7) + 1), .ref 79]) rfl ?_
    obtain ⟨r4, hc3, h⟩ := bu_so h
    have hq2 : Q 1 sio tt cc d 34 0 [some (.ref 79), some (.int ((sI s 106 7) + 1))] [] s (.inl (some (.int r4)), s) := dt34 (by omega) hl (hl.Kd (a := 79) (c := 1) (n := 2) 1 rfl rfl (by decide)) hc3
    refine Q.callI (gC_vi zm105 (show zM105.2.2.2.2.2[38]? = some (72, 3, .invokevirtual 78, [0, 34, 1, 1]) from rfl) zm34 (hl.lt (a := 79) (by decide)) (hl.T (a := 79) (p := (1, 2)) 1 rfl rfl) rfl (show aCr 1 79 [.int ((sI s 106 7) + 1), .ref 79] 2 = some ([some (.ref 79), some (.int ((sI s 106 7) + 1))], []) from rfl)) hq2 ?_
    refine Q.run zm105 1 (i' := 40) (ls' := [some (.ref 106), some (.int x1), some (.int x2), some (.int y0)]) (st' := [.int x1, .int r4]) rfl ?_
    by_cases hc5 : r4 = x1
    · rw [if_pos hc5] at h
      refine Q.map (A.bT (gI_of zm105 (e := (76, 3, .if_icmp .eq 7, [43])) rfl) (decide_eq_true hc5)) ?_
      exact dt105_43 hd hk11 hl  h
    · rw [if_neg hc5] at h
      refine Q.map (A.bF (gI_of zm105 (e := (76, 3, .if_icmp .eq 7, [43])) rfl) (fun q => hc5 (of_decide_eq_true q))) ?_
      refine Q.run zm105 2 (i' := 44) (ls' := [some (.ref 106), some (.int x1), some (.int x2), some (.int y0)]) (st' := [.int 1]) rfl ?_
      exact dt105_44 hd hk11 hl  h
def dm105_11 : Nat → Int32 → Int32 → aS → Option (Int32 × aS)
  | 0, _, _, _ => none
  | n + 1, x1, x2, s =>
    bu (dm28 79 s) fun r3 =>
    if r3 ≤ (sI s 106 7) then
      if x2 = 0 ∨ x2 = 1 then
        some (x2, s)
      else none
    else
      if x2 = 0 then
        bu (dm34 79 (sI s 106 7) s) fun r9 =>
        if r9 = x1 then
          dm105_29 (dm105_11 n) x1 1 s
        else
          dm105_29 (dm105_11 n) x1 0 s
      else
        if x2 = 0 ∨ x2 = 1 then
          some (x2, s)
        else none
set_option maxRecDepth 100000 in
theorem dt105_11 {sio : Bool} {tt : Nat} {cc : Nat → Nat → Int32} {d : Nat} (hd : 1 ≤ d) : ∀ (n : Nat) {x1 : Int32} {x2 : Int32} {g3 : Option Value} {s : aS} (_ : Ly tt cc s) {o : Int32 × aS} (_ : dm105_11  n x1 x2 s = some o), Q 1 sio tt cc d 105 11 [some (.ref 106), some (.int x1), some (.int x2), g3] [] s (.inl (some (.int o.1)), o.2) := by
  obtain ⟨d, rfl⟩ : ∃ e, d = e + 1 := ⟨d - 1, by omega⟩
  intro n
  induction n with
  | zero => intro x1 x2 g3 s hl o h; rw [dm105_11] at h; cases h
  | succ n ih =>
    intro x1 x2 g3 s hl o h
    rw [dm105_11] at h
    refine Q.run zm105 1 (i' := 12) (ls' := [some (.ref 106), some (.int x1), some (.int x2), g3]) (st' := [.ref 106]) rfl ?_
    refine Q.map (A.gf (gI_of zm105 (e := (20, 3, .getfield 61, [4, 7])) rfl) (hl.lt (a := 106) (by decide)) (hl.T (a := 106) (p := (4, 13)) 28 rfl rfl) (by decide) rfl) ?_
    refine Q.run zm105 1 (i' := 14) (ls' := [some (.ref 106), some (.int x1), some (.int x2), g3]) (st' := [.ref 106, .int (sI s 106 7)]) rfl ?_
    refine Q.map (A.gf (gI_of zm105 (e := (24, 3, .getfield 41, [4, 0])) rfl) (hl.lt (a := 106) (by decide)) (hl.T (a := 106) (p := (4, 13)) 28 rfl rfl) (by decide) (hl.R 8 rfl)) ?_
    obtain ⟨r3, hc2, h⟩ := bu_so h
    have hq1 : Q 1 sio tt cc d 28 0 [some (.ref 79)] [] s (.inl (some (.int r3)), s) := dt28 (by omega) hl (hl.Kd (a := 79) (c := 1) (n := 2) 1 rfl rfl (by decide)) hc2
    refine Q.callI (gC_vi zm105 (show zM105.2.2.2.2.2[15]? = some (27, 3, .invokevirtual 74, [0, 28, 0, 1]) from rfl) zm28 (hl.lt (a := 79) (by decide)) (hl.T (a := 79) (p := (1, 2)) 1 rfl rfl) rfl (show aCr 0 79 [.ref 79, .int (sI s 106 7)] 1 = some ([some (.ref 79)], [.int (sI s 106 7)]) from rfl)) hq1 ?_
    by_cases hc4 : r3 ≤ (sI s 106 7)
    · rw [if_pos hc4] at h
      refine Q.map (A.bT (gI_of zm105 (e := (30, 3, .if_icmp .ge 102, [68])) rfl) (decide_eq_true hc4)) ?_
      refine Q.run zm105 1 (i' := 69) (ls' := [some (.ref 106), some (.int x1), some (.int x2), g3]) (st' := [.int x2]) rfl ?_
      obtain ⟨hc5, h⟩ := ite_so h
      cases h
      exact Q.ret (A.ri zm105 (show zM105.2.2.2.2.2[69]? = some (133, 1, .ireturn, []) from rfl) rfl (fit1 hc5)) hl
    · rw [if_neg hc4] at h
      refine Q.map (A.bF (gI_of zm105 (e := (30, 3, .if_icmp .ge 102, [68])) rfl) (fun q => hc4 (of_decide_eq_true q))) ?_
      refine Q.run zm105 1 (i' := 18) (ls' := [some (.ref 106), some (.int x1), some (.int x2), g3]) (st' := [.int x2]) rfl ?_
      by_cases hc6 : x2 = 0
      · rw [if_pos hc6] at h
        refine Q.map (A.zF (gI_of zm105 (e := (34, 3, .ifCond .ne 98, [68])) rfl) (fun q => of_decide_eq_true q hc6)) ?_
        refine Q.run zm105 1 (i' := 20) (ls' := [some (.ref 106), some (.int x1), some (.int x2), g3]) (st' := [.ref 106]) rfl ?_
        refine Q.map (A.gf (gI_of zm105 (e := (38, 3, .getfield 41, [4, 0])) rfl) (hl.lt (a := 106) (by decide)) (hl.T (a := 106) (p := (4, 13)) 28 rfl rfl) (by decide) (hl.R 8 rfl)) ?_
        refine Q.run zm105 1 (i' := 22) (ls' := [some (.ref 106), some (.int x1), some (.int x2), g3]) (st' := [.ref 106, .ref 79]) rfl ?_
        refine Q.map (A.gf (gI_of zm105 (e := (42, 3, .getfield 61, [4, 7])) rfl) (hl.lt (a := 106) (by decide)) (hl.T (a := 106) (p := (4, 13)) 28 rfl rfl) (by decide) rfl) ?_
        obtain ⟨r9, hc8, h⟩ := bu_so h
        have hq7 : Q 1 sio tt cc d 34 0 [some (.ref 79), some (.int (sI s 106 7))] [] s (.inl (some (.int r9)), s) := dt34 (by omega) hl (hl.Kd (a := 79) (c := 1) (n := 2) 1 rfl rfl (by decide)) hc8
        refine Q.callI (gC_vi zm105 (show zM105.2.2.2.2.2[23]? = some (45, 3, .invokevirtual 78, [0, 34, 1, 1]) from rfl) zm34 (hl.lt (a := 79) (by decide)) (hl.T (a := 79) (p := (1, 2)) 1 rfl rfl) rfl (show aCr 1 79 [.int (sI s 106 7), .ref 79] 2 = some ([some (.ref 79), some (.int (sI s 106 7))], []) from rfl)) hq7 ?_
        refine Q.run zm105 1 (i' := 25) (ls' := [some (.ref 106), some (.int x1), some (.int x2), g3]) (st' := [.int x1, .int r9]) rfl ?_
        by_cases hc10 : r9 = x1
        · rw [if_pos hc10] at h
          refine Q.map (A.bF (gI_of zm105 (e := (49, 3, .if_icmp .ne 7, [28])) rfl) (fun q => of_decide_eq_true q hc10)) ?_
          refine Q.run zm105 2 (i' := 29) (ls' := [some (.ref 106), some (.int x1), some (.int x2), g3]) (st' := [.int 1]) rfl ?_
          exact dt105_29 hd ih hl  h
        · rw [if_neg hc10] at h
          refine Q.map (A.bT (gI_of zm105 (e := (49, 3, .if_icmp .ne 7, [28])) rfl) (decide_eq_true hc10)) ?_
          refine Q.run zm105 1 (i' := 29) (ls' := [some (.ref 106), some (.int x1), some (.int x2), g3]) (st' := [.int 0]) rfl ?_
          exact dt105_29 hd ih hl  h
      · rw [if_neg hc6] at h
        refine Q.map (A.zT (gI_of zm105 (e := (34, 3, .ifCond .ne 98, [68])) rfl) (decide_eq_true hc6)) ?_
        refine Q.run zm105 1 (i' := 69) (ls' := [some (.ref 106), some (.int x1), some (.int x2), g3]) (st' := [.int x2]) rfl ?_
        obtain ⟨hc11, h⟩ := ite_so h
        cases h
        exact Q.ret (A.ri zm105 (show zM105.2.2.2.2.2[69]? = some (133, 1, .ireturn, []) from rfl) rfl (fit1 hc11)) hl
def dm105 (x1 : Int32) (s : aS) : Option (Int32 × aS) :=
  bu (dm26 107 s) fun s3 =>
  nx (wI s3 106 7 ((sI s3 106 7) + 1)) fun s4 =>
  dm105_11 5000 x1 0 s4
set_option maxRecDepth 100000 in
theorem dt105 {sio : Bool} {tt : Nat} {cc : Nat → Nat → Int32} {d : Nat} (hd : 1 ≤ d) {x1 : Int32} {s : aS} (hl : Ly tt cc s) {o : Int32 × aS} (h : dm105  x1 s = some o) : Q 1 sio tt cc d 105 0 [some (.ref 106), some (.int x1), none, none] [] s (.inl (some (.int o.1)), o.2) := by
  unfold dm105 at h
  obtain ⟨d, rfl⟩ : ∃ e, d = e + 1 := ⟨d - 1, by omega⟩
  refine Q.run zm105 3 (i' := 3) (ls' := [some (.ref 106), some (.int x1), some (.int 0), none]) (st' := [.ref 106]) rfl ?_
  refine Q.map (A.gf (gI_of zm105 (e := (3, 3, .getfield 14, [4, 2])) rfl) (hl.lt (a := 106) (by decide)) (hl.T (a := 106) (p := (4, 13)) 28 rfl rfl) (by decide) (hl.R 10 rfl)) ?_
  obtain ⟨s3, hc2, h⟩ := bu_so h
  have hq1 : Q 1 sio tt cc d 26 0 [some (.ref 107)] [] s (.inl none, s3) := dt26 (by omega) hl (hl.Kd (a := 107) (c := 1) (n := 2) 29 rfl rfl (by decide)) hc2
  refine Q.callV (gC_vi zm105 (show zM105.2.2.2.2.2[4]? = some (6, 3, .invokevirtual 218, [0, 26, 0, 1]) from rfl) zm26 (hl.lt (a := 107) (by decide)) (hl.T (a := 107) (p := (1, 2)) 29 rfl rfl) rfl (show aCr 0 107 [.ref 107] 1 = some ([some (.ref 107)], []) from rfl)) hq1 ?_
  refine Q.run zm105 2 (i' := 7) (ls' := [some (.ref 106), some (.int x1), some (.int 0), none]) (st' := [.ref 106, .ref 106]) rfl ?_
  refine Q.map (A.gf (gI_of zm105 (e := (11, 3, .getfield 61, [4, 7])) rfl) (hq1.1.lt (a := 106) (by decide)) (hq1.1.T (a := 106) (p := (4, 13)) 28 rfl rfl) (by decide) rfl) ?_
  refine Q.run zm105 2 (i' := 10) (ls' := [some (.ref 106), some (.int x1), some (.int 0), none]) (st' := [.int ((sI s3 106 7) + 1), .ref 106]) rfl ?_
  obtain ⟨s4, hs5, h⟩ := nx_so h
  refine Q.pf hs5 rfl (gI_of zm105 (e := (16, 3, .putfield 61, [4, 7, 0])) rfl) (hq1.1.lt (a := 106) (by decide)) (by decide) (hq1.1.T (a := 106) (p := (4, 13)) 28 rfl rfl) (by decide) rfl rfl ?_
  have hl6 : Ly tt cc s4 := by rw [hs5]; exact hq1.1.wId (by decide)
  exact dt105_11 hd _ hl6  h
/-! 107 FormulaTrees$Tree.giveLetters(ILFormulaTrees$Letters;)V -/
set_option maxRecDepth 100000 in
theorem zm107 : zP[107]? = some zM107 := rfl
def dm107_15 : Nat → Nat → Nat → Int32 → aS → Option (aS)
  | 0, _, _, _, _ => none
  | n + 1, b0, b2, x3, s =>
    bu (dm28 b2 s) fun r3 =>
    if r3 ≤ x3 then
      some s
    else
      bu (dm34 b2 x3 s) fun r7 =>
      bu (dm29 (b0 + 2) r7 s) fun s10 =>
      dm107_15 n b0 b2 (x3 + 1) s10
set_option maxRecDepth 100000 in
theorem dt107_15 {sio : Bool} {tt : Nat} {cc : Nat → Nat → Int32} {d : Nat} (hd : 1 ≤ d) : ∀ (n : Nat) {b0 : Nat} {b2 : Nat} {x3 : Int32} {x1 : Int32} {s : aS} (_ : Ly tt cc s) (_ : aK s b0 3) (_ : aK s b2 1) {o : aS} (_ : dm107_15  n b0 b2 x3 s = some o), Q 1 sio tt cc d 107 15 [some (.ref b0), some (.int x1), some (.ref b2), some (.int x3)] [] s (.inl none, o) := by
  obtain ⟨d, rfl⟩ : ∃ e, d = e + 1 := ⟨d - 1, by omega⟩
  intro n
  induction n with
  | zero => intro b0 b2 x3 x1 s hl hk_b0 hk_b2 o h; rw [dm107_15] at h; cases h
  | succ n ih =>
    intro b0 b2 x3 x1 s hl hk_b0 hk_b2 o h
    rw [dm107_15] at h
    refine Q.run zm107 2 (i' := 17) (ls' := [some (.ref b0), some (.int x1), some (.ref b2), some (.int x3)]) (st' := [.ref b2, .int x3]) rfl ?_
    obtain ⟨r3, hc2, h⟩ := bu_so h
    have hq1 : Q 1 sio tt cc d 28 0 [some (.ref b2)] [] s (.inl (some (.int r3)), s) := dt28 (by omega) hl hk_b2 hc2
    refine Q.callI (gC_vi zm107 (show zM107.2.2.2.2.2[17]? = some (29, 3, .invokevirtual 47, [0, 28, 0, 1]) from rfl) zm28 hk_b2.1 (hl.le hk_b2).1 rfl (show aCr 0 b2 [.ref b2, .int x3] 1 = some ([some (.ref b2)], [.int x3]) from rfl)) hq1 ?_
    by_cases hc4 : r3 ≤ x3
    · rw [if_pos hc4] at h
      refine Q.map (A.bT (gI_of zm107 (e := (32, 3, .if_icmp .ge 21, [27])) rfl) (decide_eq_true hc4)) ?_
      cases h
      exact Q.ret (A.rv zm107 (show zM107.2.2.2.2.2[27]? = some (53, 1, .return_, []) from rfl) rfl) hl
    · rw [if_neg hc4] at h
      refine Q.map (A.bF (gI_of zm107 (e := (32, 3, .if_icmp .ge 21, [27])) rfl) (fun q => hc4 (of_decide_eq_true q))) ?_
      refine Q.run zm107 1 (i' := 20) (ls' := [some (.ref b0), some (.int x1), some (.ref b2), some (.int x3)]) (st' := [.ref b0]) rfl ?_
      refine Q.map (A.gf (gI_of zm107 (e := (36, 3, .getfield 20, [3, 1])) rfl) hk_b0.1 (hl.tr hk_b0).1 (by decide) (hl.tr hk_b0).2.2.1) ?_
      refine Q.run zm107 2 (i' := 23) (ls' := [some (.ref b0), some (.int x1), some (.ref b2), some (.int x3)]) (st' := [.int x3, .ref b2, .ref (b0 + 2)]) rfl ?_
      obtain ⟨r7, hc6, h⟩ := bu_so h
      have hq5 : Q 1 sio tt cc d 34 0 [some (.ref b2), some (.int x3)] [] s (.inl (some (.int r7)), s) := dt34 (by omega) hl hk_b2 hc6
      refine Q.callI (gC_vi zm107 (show zM107.2.2.2.2.2[23]? = some (41, 3, .invokevirtual 32, [0, 34, 1, 1]) from rfl) zm34 hk_b2.1 (hl.le hk_b2).1 rfl (show aCr 1 b2 [.int x3, .ref b2, .ref (b0 + 2)] 2 = some ([some (.ref b2), some (.int x3)], [.ref (b0 + 2)]) from rfl)) hq5 ?_
      obtain ⟨s10, hc9, h⟩ := bu_so h
      have hq8 : Q 1 sio tt cc d 29 0 [some (.ref (b0 + 2)), some (.int r7)] [] s (.inl none, s10) := dt29 (by omega) hl (hl.leK hk_b0) hc9
      refine Q.callV (gC_vi zm107 (show zM107.2.2.2.2.2[24]? = some (44, 3, .invokevirtual 54, [0, 29, 1, 1]) from rfl) zm29 (by have := (hl.tr hk_b0).2.2.2.1; omega) (hl.tr hk_b0).2.2.2.2.2.1 rfl (show aCr 1 (b0 + 2) [.int r7, .ref (b0 + 2)] 2 = some ([some (.ref (b0 + 2)), some (.int r7)], []) from rfl)) hq8 ?_
      have hr11 : aK s10 b0 3 := hq8.2.1.k hk_b0
      have hr12 : aK s10 b2 1 := hq8.2.1.k hk_b2
      refine Q.run zm107 2 (i' := 15) (ls' := [some (.ref b0), some (.int x1), some (.ref b2), some (.int (x3 + 1))]) (st' := []) rfl ?_
      exact ih hq8.1 hr11 hr12 h
def dm107 (b0 : Nat) (x1 : Int32) (b2 : Nat) (s : aS) : Option (aS) :=
  bu (dm28 (b0 + 2) s) fun r3 =>
  bu (dm60 b0 x1 9 r3 s) fun s6 =>
  bu (dm28 b2 s6) fun r11 =>
  bu (dm60 b0 x1 10 r11 s6) fun s14 =>
  dm107_15 5000 b0 b2 0 s14
set_option maxRecDepth 100000 in
theorem dt107 {sio : Bool} {tt : Nat} {cc : Nat → Nat → Int32} {d : Nat} (hd : 1 ≤ d) {b0 : Nat} {x1 : Int32} {b2 : Nat} {s : aS} (hl : Ly tt cc s) (hk_b0 : aK s b0 3) (hk_b2 : aK s b2 1) {o : aS} (h : dm107  b0 x1 b2 s = some o) : Q 1 sio tt cc d 107 0 [some (.ref b0), some (.int x1), some (.ref b2), none] [] s (.inl none, o) := by
  unfold dm107 at h
  obtain ⟨d, rfl⟩ : ∃ e, d = e + 1 := ⟨d - 1, by omega⟩
  refine Q.run zm107 4 (i' := 4) (ls' := [some (.ref b0), some (.int x1), some (.ref b2), none]) (st' := [.ref b0, .int 9, .int x1, .ref b0]) rfl ?_
  refine Q.map (A.gf (gI_of zm107 (e := (5, 3, .getfield 20, [3, 1])) rfl) hk_b0.1 (hl.tr hk_b0).1 (by decide) (hl.tr hk_b0).2.2.1) ?_
  obtain ⟨r3, hc2, h⟩ := bu_so h
  have hq1 : Q 1 sio tt cc d 28 0 [some (.ref (b0 + 2))] [] s (.inl (some (.int r3)), s) := dt28 (by omega) hl (hl.leK hk_b0) hc2
  refine Q.callI (gC_vi zm107 (show zM107.2.2.2.2.2[5]? = some (8, 3, .invokevirtual 47, [0, 28, 0, 1]) from rfl) zm28 (by have := (hl.tr hk_b0).2.2.2.1; omega) (hl.tr hk_b0).2.2.2.2.2.1 rfl (show aCr 0 (b0 + 2) [.ref (b0 + 2), .int 9, .int x1, .ref b0] 1 = some ([some (.ref (b0 + 2))], [.int 9, .int x1, .ref b0]) from rfl)) hq1 ?_
  obtain ⟨s6, hc5, h⟩ := bu_so h
  have hq4 : Q 1 sio tt cc d 60 0 [some (.ref b0), some (.int x1), some (.int 9), some (.int r3)] [] s (.inl none, s6) := dt60 (by omega) hl hk_b0 hc5
  refine Q.callV (gC_vi zm107 (show zM107.2.2.2.2.2[6]? = some (11, 3, .invokevirtual 51, [0, 60, 3, 3]) from rfl) zm60 hk_b0.1 (hl.tr hk_b0).1 rfl (show aCr 3 b0 [.int r3, .int 9, .int x1, .ref b0] 4 = some ([some (.ref b0), some (.int x1), some (.int 9), some (.int r3)], []) from rfl)) hq4 ?_
  have hr7 : aK s6 b0 3 := hq4.2.1.k hk_b0
  have hr8 : aK s6 b2 1 := hq4.2.1.k hk_b2
  refine Q.run zm107 4 (i' := 11) (ls' := [some (.ref b0), some (.int x1), some (.ref b2), none]) (st' := [.ref b2, .int 10, .int x1, .ref b0]) rfl ?_
  obtain ⟨r11, hc10, h⟩ := bu_so h
  have hq9 : Q 1 sio tt cc d 28 0 [some (.ref b2)] [] s6 (.inl (some (.int r11)), s6) := dt28 (by omega) hq4.1 hr8 hc10
  refine Q.callI (gC_vi zm107 (show zM107.2.2.2.2.2[11]? = some (19, 3, .invokevirtual 47, [0, 28, 0, 1]) from rfl) zm28 hr8.1 (hq4.1.le hr8).1 rfl (show aCr 0 b2 [.ref b2, .int 10, .int x1, .ref b0] 1 = some ([some (.ref b2)], [.int 10, .int x1, .ref b0]) from rfl)) hq9 ?_
  obtain ⟨s14, hc13, h⟩ := bu_so h
  have hq12 : Q 1 sio tt cc d 60 0 [some (.ref b0), some (.int x1), some (.int 10), some (.int r11)] [] s6 (.inl none, s14) := dt60 (by omega) hq4.1 hr7 hc13
  refine Q.callV (gC_vi zm107 (show zM107.2.2.2.2.2[12]? = some (22, 3, .invokevirtual 51, [0, 60, 3, 3]) from rfl) zm60 hr7.1 (hq4.1.tr hr7).1 rfl (show aCr 3 b0 [.int r11, .int 10, .int x1, .ref b0] 4 = some ([some (.ref b0), some (.int x1), some (.int 10), some (.int r11)], []) from rfl)) hq12 ?_
  have hr15 : aK s14 b0 3 := hq12.2.1.k hr7
  have hr16 : aK s14 b2 1 := hq12.2.1.k hr8
  refine Q.run zm107 2 (i' := 15) (ls' := [some (.ref b0), some (.int x1), some (.ref b2), some (.int 0)]) (st' := []) rfl ?_
  exact dt107_15 hd _ hq12.1 hr15 hr16 h
/-! 106 FormulaTrees$Reader.keepHeld(II)V -/
set_option maxRecDepth 100000 in
theorem zm106 : zP[106]? = some zM106 := rfl
def dm106 (x1 : Int32) (x2 : Int32) (s : aS) : Option (aS) :=
  bv (dm70 x2 s) fun r4 s3 =>
  if r4 = 0 then
    some s3
  else
    vN (sR s3 106 6) (
      none
    ) fun b7 =>
      if aK s3 b7 3 then
        bu (dm94 b7 s3) fun r11 =>
        vN (sR s3 106 6) (
          none
        ) fun b13 =>
          if aK s3 b13 3 then
            bu (dm72 b13 r11 x1 0 s3) fun s17 =>
            vN (sR s17 106 6) (
              none
            ) fun b21 =>
              if aK s17 b21 3 then
                bu (dm107 b21 r11 107 s17) fun s25 =>
                bu (dm81 r11 s25) fun s31 =>
                some s31
              else none
          else none
      else none
set_option maxRecDepth 100000 in
theorem dt106 {sio : Bool} {tt : Nat} {cc : Nat → Nat → Int32} {d : Nat} (hd : 2 ≤ d) {x1 : Int32} {x2 : Int32} {s : aS} (hl : Ly tt cc s) {o : aS} (h : dm106  x1 x2 s = some o) : Q 1 sio tt cc d 106 0 [some (.ref 106), some (.int x1), some (.int x2), none] [] s (.inl none, o) := by
  unfold dm106 at h
  obtain ⟨d, rfl⟩ : ∃ e, d = e + 1 := ⟨d - 1, by omega⟩
  refine Q.run zm106 2 (i' := 2) (ls' := [some (.ref 106), some (.int x1), some (.int x2), none]) (st' := [.int x2, .ref 106]) rfl ?_
  obtain ⟨r4, s3, hc2, h⟩ := bv_so h
  have hq1 : Q 1 sio tt cc d 70 0 [some (.ref 106), some (.int x2), none] [] s (.inl (some (.int r4)), s3) := dt70 (by omega) hl  hc2
  refine Q.callI (gC_vi zm106 (show zM106.2.2.2.2.2[2]? = some (2, 3, .invokevirtual 144, [0, 70, 1, 4]) from rfl) zm70 (hl.lt (a := 106) (by decide)) (hl.T (a := 106) (p := (4, 13)) 28 rfl rfl) rfl (show aCr 1 106 [.int x2, .ref 106] 3 = some ([some (.ref 106), some (.int x2), none], []) from rfl)) hq1 ?_
  by_cases hc5 : r4 = 0
  · rw [if_pos hc5] at h
    refine Q.map (A.zT (gI_of zm106 (e := (5, 3, .ifCond .eq 38, [23])) rfl) (decide_eq_true hc5)) ?_
    cases h
    exact Q.ret (A.rv zm106 (show zM106.2.2.2.2.2[23]? = some (43, 1, .return_, []) from rfl) rfl) hq1.1
  · rw [if_neg hc5] at h
    refine Q.map (A.zF (gI_of zm106 (e := (5, 3, .ifCond .eq 38, [23])) rfl) (fun q => hc5 (of_decide_eq_true q))) ?_
    refine Q.run zm106 1 (i' := 5) (ls' := [some (.ref 106), some (.int x1), some (.int x2), none]) (st' := [.ref 106]) rfl ?_
    rcases vN_so h with ⟨hv6, h⟩ | ⟨b7, hv6, h⟩
    · refine Q.map (A.gf (gI_of zm106 (e := (9, 3, .getfield 48, [4, 6])) rfl) (hq1.1.lt (a := 106) (by decide)) (hq1.1.T (a := 106) (p := (4, 13)) 28 rfl rfl) (by decide) hv6) ?_
      cases h
    · obtain ⟨hr8, h⟩ := ite_so h
      refine Q.map (A.gf (gI_of zm106 (e := (9, 3, .getfield 48, [4, 6])) rfl) (hq1.1.lt (a := 106) (by decide)) (hq1.1.T (a := 106) (p := (4, 13)) 28 rfl rfl) (by decide) hv6) ?_
      obtain ⟨r11, hc10, h⟩ := bu_so h
      have hq9 : Q 1 sio tt cc d 94 0 [some (.ref b7)] [] s3 (.inl (some (.int r11)), s3) := dt94 (by omega) hq1.1 hr8 hc10
      refine Q.callI (gC_vi zm106 (show zM106.2.2.2.2.2[6]? = some (12, 3, .invokevirtual 116, [0, 94, 0, 3]) from rfl) zm94 hr8.1 (hq1.1.tr hr8).1 rfl (show aCr 0 b7 [.ref b7] 1 = some ([some (.ref b7)], []) from rfl)) hq9 ?_
      refine Q.run zm106 2 (i' := 9) (ls' := [some (.ref 106), some (.int x1), some (.int x2), some (.int r11)]) (st' := [.ref 106]) rfl ?_
      rcases vN_so h with ⟨hv12, h⟩ | ⟨b13, hv12, h⟩
      · refine Q.map (A.gf (gI_of zm106 (e := (17, 3, .getfield 48, [4, 6])) rfl) (hq1.1.lt (a := 106) (by decide)) (hq1.1.T (a := 106) (p := (4, 13)) 28 rfl rfl) (by decide) hv12) ?_
        refine Q.run zm106 3 (i' := 13) (ls' := [some (.ref 106), some (.int x1), some (.int x2), some (.int r11)]) (st' := [.int 0, .int x1, .int r11, .null]) rfl ?_
        cases h
      · obtain ⟨hr14, h⟩ := ite_so h
        refine Q.map (A.gf (gI_of zm106 (e := (17, 3, .getfield 48, [4, 6])) rfl) (hq1.1.lt (a := 106) (by decide)) (hq1.1.T (a := 106) (p := (4, 13)) 28 rfl rfl) (by decide) hv12) ?_
        refine Q.run zm106 3 (i' := 13) (ls' := [some (.ref 106), some (.int x1), some (.int x2), some (.int r11)]) (st' := [.int 0, .int x1, .int r11, .ref b13]) rfl ?_
        obtain ⟨s17, hc16, h⟩ := bu_so h
        have hq15 : Q 1 sio tt cc d 72 0 [some (.ref b13), some (.int r11), some (.int x1), some (.int 0), none] [] s3 (.inl none, s17) := dt72 (by omega) hq1.1 hr14 hc16
        refine Q.callV (gC_vi zm106 (show zM106.2.2.2.2.2[13]? = some (23, 3, .invokevirtual 150, [0, 72, 3, 3]) from rfl) zm72 hr14.1 (hq1.1.tr hr14).1 rfl (show aCr 3 b13 [.int 0, .int x1, .int r11, .ref b13] 5 = some ([some (.ref b13), some (.int r11), some (.int x1), some (.int 0), none], []) from rfl)) hq15 ?_
        have hr18 : aK s17 b7 3 := hq15.2.1.k hr8
        have hr19 : aK s17 b13 3 := hq15.2.1.k hr14
        refine Q.run zm106 1 (i' := 15) (ls' := [some (.ref 106), some (.int x1), some (.int x2), some (.int r11)]) (st' := [.ref 106]) rfl ?_
        rcases vN_so h with ⟨hv20, h⟩ | ⟨b21, hv20, h⟩
        · refine Q.map (A.gf (gI_of zm106 (e := (27, 3, .getfield 48, [4, 6])) rfl) (hq15.1.lt (a := 106) (by decide)) (hq15.1.T (a := 106) (p := (4, 13)) 28 rfl rfl) (by decide) hv20) ?_
          refine Q.run zm106 2 (i' := 18) (ls' := [some (.ref 106), some (.int x1), some (.int x2), some (.int r11)]) (st' := [.ref 106, .int r11, .null]) rfl ?_
          refine Q.map (A.gf (gI_of zm106 (e := (32, 3, .getfield 14, [4, 2])) rfl) (hq15.1.lt (a := 106) (by decide)) (hq15.1.T (a := 106) (p := (4, 13)) 28 rfl rfl) (by decide) (hq15.1.R 10 rfl)) ?_
          cases h
        · obtain ⟨hr22, h⟩ := ite_so h
          refine Q.map (A.gf (gI_of zm106 (e := (27, 3, .getfield 48, [4, 6])) rfl) (hq15.1.lt (a := 106) (by decide)) (hq15.1.T (a := 106) (p := (4, 13)) 28 rfl rfl) (by decide) hv20) ?_
          refine Q.run zm106 2 (i' := 18) (ls' := [some (.ref 106), some (.int x1), some (.int x2), some (.int r11)]) (st' := [.ref 106, .int r11, .ref b21]) rfl ?_
          refine Q.map (A.gf (gI_of zm106 (e := (32, 3, .getfield 14, [4, 2])) rfl) (hq15.1.lt (a := 106) (by decide)) (hq15.1.T (a := 106) (p := (4, 13)) 28 rfl rfl) (by decide) (hq15.1.R 10 rfl)) ?_
          obtain ⟨s25, hc24, h⟩ := bu_so h
          have hq23 : Q 1 sio tt cc d 107 0 [some (.ref b21), some (.int r11), some (.ref 107), none] [] s17 (.inl none, s25) := dt107 (by omega) hq15.1 hr22 (hq15.1.Kd (a := 107) (c := 1) (n := 2) 29 rfl rfl (by decide)) hc24
          refine Q.callV (gC_vi zm106 (show zM106.2.2.2.2.2[19]? = some (35, 3, .invokevirtual 221, [0, 107, 2, 3]) from rfl) zm107 hr22.1 (hq15.1.tr hr22).1 rfl (show aCr 2 b21 [.ref 107, .int r11, .ref b21] 4 = some ([some (.ref b21), some (.int r11), some (.ref 107), none], []) from rfl)) hq23 ?_
          have hr26 : aK s25 b7 3 := hq23.2.1.k hr18
          have hr27 : aK s25 b13 3 := hq23.2.1.k hr19
          have hr28 : aK s25 b21 3 := hq23.2.1.k hr22
          refine Q.run zm106 2 (i' := 22) (ls' := [some (.ref 106), some (.int x1), some (.int x2), some (.int r11)]) (st' := [.int r11, .ref 106]) rfl ?_
          obtain ⟨s31, hc30, h⟩ := bu_so h
          have hq29 : Q 1 sio tt cc d 81 0 [some (.ref 106), some (.int r11)] [] s25 (.inl none, s31) := dt81 (by omega) hq23.1  hc30
          refine Q.callV (gC_vi zm106 (show zM106.2.2.2.2.2[22]? = some (40, 3, .invokevirtual 186, [0, 81, 1, 4]) from rfl) zm81 (hq23.1.lt (a := 106) (by decide)) (hq23.1.T (a := 106) (p := (4, 13)) 28 rfl rfl) rfl (show aCr 1 106 [.int r11, .ref 106] 2 = some ([some (.ref 106), some (.int r11)], []) from rfl)) hq29 ?_
          have hr32 : aK s31 b7 3 := hq29.2.1.k hr26
          have hr33 : aK s31 b13 3 := hq29.2.1.k hr27
          have hr34 : aK s31 b21 3 := hq29.2.1.k hr28
          cases h
          exact Q.ret (A.rv zm106 (show zM106.2.2.2.2.2[23]? = some (43, 1, .return_, []) from rfl) rfl) hq29.1
/-! 104 FormulaTrees$Reader.readText()V -/
set_option maxRecDepth 100000 in
theorem zm104 : zP[104]? = some zM104 := rfl
def dm104 (s : aS) : Option (aS) :=
  bv (dm105 34 s) fun r4 s3 =>
  if r4 = 0 then
    nx (wI s3 106 8 (sI s3 106 7)) fun s6 =>
    some s6
  else
    bu (dm106 1 (sI s 106 7) s3) fun s11 =>
    some s11
set_option maxRecDepth 100000 in
theorem dt104 {sio : Bool} {tt : Nat} {cc : Nat → Nat → Int32} {d : Nat} (hd : 3 ≤ d) {s : aS} (hl : Ly tt cc s) {o : aS} (h : dm104  s = some o) : Q 1 sio tt cc d 104 0 [some (.ref 106), none] [] s (.inl none, o) := by
  unfold dm104 at h
  obtain ⟨d, rfl⟩ : ∃ e, d = e + 1 := ⟨d - 1, by omega⟩
  refine Q.run zm104 1 (i' := 1) (ls' := [some (.ref 106), none]) (st' := [.ref 106]) rfl ?_
  refine Q.map (A.gf (gI_of zm104 (e := (1, 3, .getfield 61, [4, 7])) rfl) (hl.lt (a := 106) (by decide)) (hl.T (a := 106) (p := (4, 13)) 28 rfl rfl) (by decide) rfl) ?_
  refine Q.run zm104 3 (i' := 5) (ls' := [some (.ref 106), some (.int (sI s 106 7))]) (st' := [.int 34, .ref 106]) rfl ?_
  obtain ⟨r4, s3, hc2, h⟩ := bv_so h
  have hq1 : Q 1 sio tt cc d 105 0 [some (.ref 106), some (.int 34), none, none] [] s (.inl (some (.int r4)), s3) := dt105 (by omega) hl  hc2
  refine Q.callI (gC_vi zm104 (show zM104.2.2.2.2.2[5]? = some (8, 3, .invokevirtual 225, [0, 105, 1, 4]) from rfl) zm105 (hl.lt (a := 106) (by decide)) (hl.T (a := 106) (p := (4, 13)) 28 rfl rfl) rfl (show aCr 1 106 [.int 34, .ref 106] 4 = some ([some (.ref 106), some (.int 34), none, none], []) from rfl)) hq1 ?_
  by_cases hc5 : r4 = 0
  · rw [if_pos hc5] at h
    refine Q.map (A.zT (gI_of zm104 (e := (11, 3, .ifCond .eq 12, [12])) rfl) (decide_eq_true hc5)) ?_
    refine Q.run zm104 2 (i' := 14) (ls' := [some (.ref 106), some (.int (sI s 106 7))]) (st' := [.ref 106, .ref 106]) rfl ?_
    refine Q.map (A.gf (gI_of zm104 (e := (25, 3, .getfield 61, [4, 7])) rfl) (hq1.1.lt (a := 106) (by decide)) (hq1.1.T (a := 106) (p := (4, 13)) 28 rfl rfl) (by decide) rfl) ?_
    obtain ⟨s6, hs7, h⟩ := nx_so h
    refine Q.pf hs7 rfl (gI_of zm104 (e := (28, 3, .putfield 65, [4, 8, 0])) rfl) (hq1.1.lt (a := 106) (by decide)) (by decide) (hq1.1.T (a := 106) (p := (4, 13)) 28 rfl rfl) (by decide) rfl rfl ?_
    have hl8 : Ly tt cc s6 := by rw [hs7]; exact hq1.1.wId (by decide)
    cases h
    exact Q.ret (A.rv zm104 (show zM104.2.2.2.2.2[16]? = some (31, 1, .return_, []) from rfl) rfl) hl8
  · rw [if_neg hc5] at h
    refine Q.map (A.zF (gI_of zm104 (e := (11, 3, .ifCond .eq 12, [12])) rfl) (fun q => hc5 (of_decide_eq_true q))) ?_
    refine Q.run zm104 3 (i' := 10) (ls' := [some (.ref 106), some (.int (sI s 106 7))]) (st' := [.int (sI s 106 7), .int 1, .ref 106]) rfl ?_
    obtain ⟨s11, hc10, h⟩ := bu_so h
    have hq9 : Q 1 sio tt cc d 106 0 [some (.ref 106), some (.int 1), some (.int (sI s 106 7)), none] [] s3 (.inl none, s11) := dt106 (by omega) hq1.1  hc10
    refine Q.callV (gC_vi zm104 (show zM104.2.2.2.2.2[10]? = some (17, 3, .invokevirtual 215, [0, 106, 2, 4]) from rfl) zm106 (hq1.1.lt (a := 106) (by decide)) (hq1.1.T (a := 106) (p := (4, 13)) 28 rfl rfl) rfl (show aCr 2 106 [.int (sI s 106 7), .int 1, .ref 106] 4 = some ([some (.ref 106), some (.int 1), some (.int (sI s 106 7)), none], []) from rfl)) hq9 ?_
    refine Q.run zm104 1 (i' := 16) (ls' := [some (.ref 106), some (.int (sI s 106 7))]) (st' := []) rfl ?_
    cases h
    exact Q.ret (A.rv zm104 (show zM104.2.2.2.2.2[16]? = some (31, 1, .return_, []) from rfl) rfl) hq9.1
/-! 110 FormulaTrees.errorName(I)Ljava/lang/String; -/
set_option maxRecDepth 100000 in
theorem zm110 : zP[110]? = some zM110 := rfl
def dm110 (x0 : Int32) : Option (Value) :=
  if x0 = 1 then
    some (.ref 21)
  else
    if x0 = 2 then
      some (.ref 23)
    else
      if x0 = 3 then
        some (.ref 25)
      else
        if x0 = 4 then
          some (.ref 27)
        else
          if x0 = 5 then
            some (.ref 29)
          else
            if x0 = 6 then
              some (.ref 31)
            else
              some (.ref 33)
set_option maxRecDepth 100000 in
theorem dt110 {sio : Bool} {tt : Nat} {cc : Nat → Nat → Int32} {d : Nat} (hd : 0 ≤ d) {x0 : Int32} {s : aS} (hl : Ly tt cc s) {o : Value} (h : dm110  x0 = some o) : Q 1 sio tt cc d 110 0 [some (.int x0)] [] s (.inl (some o), s) := by
  unfold dm110 at h
  refine Q.run zm110 1 (i' := 1) (ls' := [some (.int x0)]) (st' := [.int x0]) rfl ?_
  by_cases hc1 : x0 = 1
  · rw [if_pos hc1] at h
    refine Q.map (A.ts (gI_of zm110 (e := (1, 39, .tableswitch 57 1 6 #[39, 42, 45, 48, 51, 54], [14, 2, 4, 6, 8, 10, 12])) rfl) (t := 2) (by rw [hc1] <;> decide)) ?_
    refine Q.run zm110 1 (i' := 3) (ls' := [some (.int x0)]) (st' := [.ref 21]) rfl ?_
    cases h
    exact Q.ret (A.ra zm110 (show zM110.2.2.2.2.2[3]? = some (42, 1, .areturn, []) from rfl) rfl rfl rfl) hl
  · rw [if_neg hc1] at h
    by_cases hc2 : x0 = 2
    · rw [if_pos hc2] at h
      refine Q.map (A.ts (gI_of zm110 (e := (1, 39, .tableswitch 57 1 6 #[39, 42, 45, 48, 51, 54], [14, 2, 4, 6, 8, 10, 12])) rfl) (t := 4) (by rw [hc2] <;> decide)) ?_
      refine Q.run zm110 1 (i' := 5) (ls' := [some (.int x0)]) (st' := [.ref 23]) rfl ?_
      cases h
      exact Q.ret (A.ra zm110 (show zM110.2.2.2.2.2[5]? = some (45, 1, .areturn, []) from rfl) rfl rfl rfl) hl
    · rw [if_neg hc2] at h
      by_cases hc3 : x0 = 3
      · rw [if_pos hc3] at h
        refine Q.map (A.ts (gI_of zm110 (e := (1, 39, .tableswitch 57 1 6 #[39, 42, 45, 48, 51, 54], [14, 2, 4, 6, 8, 10, 12])) rfl) (t := 6) (by rw [hc3] <;> decide)) ?_
        refine Q.run zm110 1 (i' := 7) (ls' := [some (.int x0)]) (st' := [.ref 25]) rfl ?_
        cases h
        exact Q.ret (A.ra zm110 (show zM110.2.2.2.2.2[7]? = some (48, 1, .areturn, []) from rfl) rfl rfl rfl) hl
      · rw [if_neg hc3] at h
        by_cases hc4 : x0 = 4
        · rw [if_pos hc4] at h
          refine Q.map (A.ts (gI_of zm110 (e := (1, 39, .tableswitch 57 1 6 #[39, 42, 45, 48, 51, 54], [14, 2, 4, 6, 8, 10, 12])) rfl) (t := 8) (by rw [hc4] <;> decide)) ?_
          refine Q.run zm110 1 (i' := 9) (ls' := [some (.int x0)]) (st' := [.ref 27]) rfl ?_
          cases h
          exact Q.ret (A.ra zm110 (show zM110.2.2.2.2.2[9]? = some (51, 1, .areturn, []) from rfl) rfl rfl rfl) hl
        · rw [if_neg hc4] at h
          by_cases hc5 : x0 = 5
          · rw [if_pos hc5] at h
            refine Q.map (A.ts (gI_of zm110 (e := (1, 39, .tableswitch 57 1 6 #[39, 42, 45, 48, 51, 54], [14, 2, 4, 6, 8, 10, 12])) rfl) (t := 10) (by rw [hc5] <;> decide)) ?_
            refine Q.run zm110 1 (i' := 11) (ls' := [some (.int x0)]) (st' := [.ref 29]) rfl ?_
            cases h
            exact Q.ret (A.ra zm110 (show zM110.2.2.2.2.2[11]? = some (54, 1, .areturn, []) from rfl) rfl rfl rfl) hl
          · rw [if_neg hc5] at h
            by_cases hc6 : x0 = 6
            · rw [if_pos hc6] at h
              refine Q.map (A.ts (gI_of zm110 (e := (1, 39, .tableswitch 57 1 6 #[39, 42, 45, 48, 51, 54], [14, 2, 4, 6, 8, 10, 12])) rfl) (t := 12) (by rw [hc6] <;> decide)) ?_
              refine Q.run zm110 1 (i' := 13) (ls' := [some (.int x0)]) (st' := [.ref 31]) rfl ?_
              cases h
              exact Q.ret (A.ra zm110 (show zM110.2.2.2.2.2[13]? = some (57, 1, .areturn, []) from rfl) rfl rfl rfl) hl
            · rw [if_neg hc6] at h
              refine Q.map (A.ts (gI_of zm110 (e := (1, 39, .tableswitch 57 1 6 #[39, 42, 45, 48, 51, 54], [14, 2, 4, 6, 8, 10, 12])) rfl) (t := 14) (by have := (show x0.toInt ≠ 1 ∧ x0.toInt ≠ 2 ∧ x0.toInt ≠ 3 ∧ x0.toInt ≠ 4 ∧ x0.toInt ≠ 5 ∧ x0.toInt ≠ 6 from ⟨i32_ne (n := 1) hc1 (by decide), i32_ne (n := 2) hc2 (by decide), i32_ne (n := 3) hc3 (by decide), i32_ne (n := 4) hc4 (by decide), i32_ne (n := 5) hc5 (by decide), i32_ne (n := 6) hc6 (by decide)⟩); rw [if_pos]; omega)) ?_
              refine Q.run zm110 1 (i' := 15) (ls' := [some (.int x0)]) (st' := [.ref 33]) rfl ?_
              cases h
              exact Q.ret (A.ra zm110 (show zM110.2.2.2.2.2[15]? = some (60, 1, .areturn, []) from rfl) rfl rfl rfl) hl
/-! 109 FormulaTrees$Reader.errorThatBegins(II)I -/
set_option maxRecDepth 100000 in
theorem zm109 : zP[109]? = some zM109 := rfl
def dm109_2 : Nat → Int32 → Int32 → Int32 → aS → Option (Int32 × aS)
  | 0, _, _, _, _ => none
  | n + 1, x1, x2, x3, s =>
    if 7 < x3 then
      some (0, s)
    else
      bu (dm110 x3) fun r4 =>
      vR r4 fun b5 =>
      if aK s b5 70 then
        bv (dm49 79 b5 x2 x1 s) fun r11 s10 =>
        if r11 = 0 then
          dm109_2 n x1 x2 (x3 + 1) s10
        else
          some (x3, s10)
      else none
set_option maxRecDepth 100000 in
theorem dt109_2 {sio : Bool} {tt : Nat} {cc : Nat → Nat → Int32} {d : Nat} (hd : 5 ≤ d) : ∀ (n : Nat) {x1 : Int32} {x2 : Int32} {x3 : Int32} {s : aS} (_ : Ly tt cc s) {o : Int32 × aS} (_ : dm109_2  n x1 x2 x3 s = some o), Q 1 sio tt cc d 109 2 [some (.ref 106), some (.int x1), some (.int x2), some (.int x3)] [] s (.inl (some (.int o.1)), o.2) := by
  obtain ⟨d, rfl⟩ : ∃ e, d = e + 1 := ⟨d - 1, by omega⟩
  intro n
  induction n with
  | zero => intro x1 x2 x3 s hl o h; rw [dm109_2] at h; cases h
  | succ n ih =>
    intro x1 x2 x3 s hl o h
    rw [dm109_2] at h
    refine Q.run zm109 2 (i' := 4) (ls' := [some (.ref 106), some (.int x1), some (.int x2), some (.int x3)]) (st' := [.int 7, .int x3]) rfl ?_
    by_cases hc1 : 7 < x3
    · rw [if_pos hc1] at h
      refine Q.map (A.bT (gI_of zm109 (e := (5, 3, .if_icmp .gt 27, [17])) rfl) (decide_eq_true hc1)) ?_
      refine Q.run zm109 1 (i' := 18) (ls' := [some (.ref 106), some (.int x1), some (.int x2), some (.int x3)]) (st' := [.int 0]) rfl ?_
      cases h
      exact Q.ret (A.ri zm109 (show zM109.2.2.2.2.2[18]? = some (33, 1, .ireturn, []) from rfl) rfl rfl) hl
    · rw [if_neg hc1] at h
      refine Q.map (A.bF (gI_of zm109 (e := (5, 3, .if_icmp .gt 27, [17])) rfl) (fun q => hc1 (of_decide_eq_true q))) ?_
      refine Q.run zm109 1 (i' := 6) (ls' := [some (.ref 106), some (.int x1), some (.int x2), some (.int x3)]) (st' := [.ref 106]) rfl ?_
      refine Q.map (A.gf (gI_of zm109 (e := (9, 3, .getfield 41, [4, 0])) rfl) (hl.lt (a := 106) (by decide)) (hl.T (a := 106) (p := (4, 13)) 28 rfl rfl) (by decide) (hl.R 8 rfl)) ?_
      refine Q.run zm109 1 (i' := 8) (ls' := [some (.ref 106), some (.int x1), some (.int x2), some (.int x3)]) (st' := [.int x3, .ref 79]) rfl ?_
      obtain ⟨r4, hc3, h⟩ := bu_so h
      have hq2 : Q 1 sio tt cc d 110 0 [some (.int x3)] [] s (.inl (some r4), s) := dt110 (by omega) hl  hc3
      obtain ⟨b5, hv6, h9⟩ := vR_so h
      clear h
      subst hv6
      have h := h9
      obtain ⟨hr7, h⟩ := ite_so h
      refine Q.callR (gC_st zm109 (show zM109.2.2.2.2.2[8]? = some (13, 3, .invokestatic 231, [0, 110, 1]) from rfl) zm110 (show aC 1 [.int x3, .ref 79] 1 = some ([some (.int x3)], [.ref 79]) from rfl)) hq2 ?_
      refine Q.run zm109 2 (i' := 11) (ls' := [some (.ref 106), some (.int x1), some (.int x2), some (.int x3)]) (st' := [.int x1, .int x2, .ref b5, .ref 79]) rfl ?_
      obtain ⟨r11, s10, hc9, h⟩ := bv_so h
      have hq8 : Q 1 sio tt cc d 49 0 [some (.ref 79), some (.ref b5), some (.int x2), some (.int x1), none, none] [] s (.inl (some (.int r11)), s10) := dt49 (by omega) hl (hl.Kd (a := 79) (c := 1) (n := 2) 1 rfl rfl (by decide)) hr7 hc9
      refine Q.callI (gC_vi zm109 (show zM109.2.2.2.2.2[11]? = some (18, 3, .invokevirtual 241, [0, 49, 3, 1]) from rfl) zm49 (hl.lt (a := 79) (by decide)) (hl.T (a := 79) (p := (1, 2)) 1 rfl rfl) rfl (show aCr 3 79 [.int x1, .int x2, .ref b5, .ref 79] 6 = some ([some (.ref 79), some (.ref b5), some (.int x2), some (.int x1), none, none], []) from rfl)) hq8 ?_
      have hr12 : aK s10 b5 70 := hq8.2.1.k hr7
      by_cases hc13 : r11 = 0
      · rw [if_pos hc13] at h
        refine Q.map (A.zT (gI_of zm109 (e := (21, 3, .ifCond .eq 5, [15])) rfl) (decide_eq_true hc13)) ?_
        refine Q.run zm109 2 (i' := 2) (ls' := [some (.ref 106), some (.int x1), some (.int x2), some (.int (x3 + 1))]) (st' := []) rfl ?_
        exact ih hq8.1  h
      · rw [if_neg hc13] at h
        refine Q.map (A.zF (gI_of zm109 (e := (21, 3, .ifCond .eq 5, [15])) rfl) (fun q => hc13 (of_decide_eq_true q))) ?_
        refine Q.run zm109 1 (i' := 14) (ls' := [some (.ref 106), some (.int x1), some (.int x2), some (.int x3)]) (st' := [.int x3]) rfl ?_
        cases h
        exact Q.ret (A.ri zm109 (show zM109.2.2.2.2.2[14]? = some (25, 1, .ireturn, []) from rfl) rfl rfl) hq8.1
def dm109 (x1 : Int32) (x2 : Int32) (s : aS) : Option (Int32 × aS) :=
  dm109_2 5000 x1 x2 1 s
set_option maxRecDepth 100000 in
theorem dt109 {sio : Bool} {tt : Nat} {cc : Nat → Nat → Int32} {d : Nat} (hd : 5 ≤ d) {x1 : Int32} {x2 : Int32} {s : aS} (hl : Ly tt cc s) {o : Int32 × aS} (h : dm109  x1 x2 s = some o) : Q 1 sio tt cc d 109 0 [some (.ref 106), some (.int x1), some (.int x2), none] [] s (.inl (some (.int o.1)), o.2) := by
  unfold dm109 at h
  obtain ⟨d, rfl⟩ : ∃ e, d = e + 1 := ⟨d - 1, by omega⟩
  refine Q.run zm109 2 (i' := 2) (ls' := [some (.ref 106), some (.int x1), some (.int x2), some (.int 1)]) (st' := []) rfl ?_
  exact dt109_2 hd _ hl  h
/-! 111 FormulaTrees$Reader.keepValue(III)V -/
set_option maxRecDepth 100000 in
theorem zm111 : zP[111]? = some zM111 := rfl
def dm111 (x1 : Int32) (x2 : Int32) (x3 : Int32) (s : aS) : Option (aS) :=
  bv (dm70 x3 s) fun r4 s3 =>
  if r4 = 0 then
    some s3
  else
    vN (sR s3 106 6) (
      none
    ) fun b7 =>
      if aK s3 b7 3 then
        bu (dm94 b7 s3) fun r11 =>
        vN (sR s3 106 6) (
          none
        ) fun b13 =>
          if aK s3 b13 3 then
            bu (dm72 b13 r11 x1 0 s3) fun s17 =>
            vN (sR s17 106 6) (
              none
            ) fun b21 =>
              if aK s17 b21 3 then
                bu (dm60 b21 r11 8 x2 s17) fun s25 =>
                bu (dm81 r11 s25) fun s31 =>
                some s31
              else none
          else none
      else none
set_option maxRecDepth 100000 in
theorem dt111 {sio : Bool} {tt : Nat} {cc : Nat → Nat → Int32} {d : Nat} (hd : 2 ≤ d) {x1 : Int32} {x2 : Int32} {x3 : Int32} {s : aS} (hl : Ly tt cc s) {o : aS} (h : dm111  x1 x2 x3 s = some o) : Q 1 sio tt cc d 111 0 [some (.ref 106), some (.int x1), some (.int x2), some (.int x3), none] [] s (.inl none, o) := by
  unfold dm111 at h
  obtain ⟨d, rfl⟩ : ∃ e, d = e + 1 := ⟨d - 1, by omega⟩
  refine Q.run zm111 2 (i' := 2) (ls' := [some (.ref 106), some (.int x1), some (.int x2), some (.int x3), none]) (st' := [.int x3, .ref 106]) rfl ?_
  obtain ⟨r4, s3, hc2, h⟩ := bv_so h
  have hq1 : Q 1 sio tt cc d 70 0 [some (.ref 106), some (.int x3), none] [] s (.inl (some (.int r4)), s3) := dt70 (by omega) hl  hc2
  refine Q.callI (gC_vi zm111 (show zM111.2.2.2.2.2[2]? = some (2, 3, .invokevirtual 144, [0, 70, 1, 4]) from rfl) zm70 (hl.lt (a := 106) (by decide)) (hl.T (a := 106) (p := (4, 13)) 28 rfl rfl) rfl (show aCr 1 106 [.int x3, .ref 106] 3 = some ([some (.ref 106), some (.int x3), none], []) from rfl)) hq1 ?_
  by_cases hc5 : r4 = 0
  · rw [if_pos hc5] at h
    refine Q.map (A.zT (gI_of zm111 (e := (5, 3, .ifCond .eq 41, [23])) rfl) (decide_eq_true hc5)) ?_
    cases h
    exact Q.ret (A.rv zm111 (show zM111.2.2.2.2.2[23]? = some (46, 1, .return_, []) from rfl) rfl) hq1.1
  · rw [if_neg hc5] at h
    refine Q.map (A.zF (gI_of zm111 (e := (5, 3, .ifCond .eq 41, [23])) rfl) (fun q => hc5 (of_decide_eq_true q))) ?_
    refine Q.run zm111 1 (i' := 5) (ls' := [some (.ref 106), some (.int x1), some (.int x2), some (.int x3), none]) (st' := [.ref 106]) rfl ?_
    rcases vN_so h with ⟨hv6, h⟩ | ⟨b7, hv6, h⟩
    · refine Q.map (A.gf (gI_of zm111 (e := (9, 3, .getfield 48, [4, 6])) rfl) (hq1.1.lt (a := 106) (by decide)) (hq1.1.T (a := 106) (p := (4, 13)) 28 rfl rfl) (by decide) hv6) ?_
      cases h
    · obtain ⟨hr8, h⟩ := ite_so h
      refine Q.map (A.gf (gI_of zm111 (e := (9, 3, .getfield 48, [4, 6])) rfl) (hq1.1.lt (a := 106) (by decide)) (hq1.1.T (a := 106) (p := (4, 13)) 28 rfl rfl) (by decide) hv6) ?_
      obtain ⟨r11, hc10, h⟩ := bu_so h
      have hq9 : Q 1 sio tt cc d 94 0 [some (.ref b7)] [] s3 (.inl (some (.int r11)), s3) := dt94 (by omega) hq1.1 hr8 hc10
      refine Q.callI (gC_vi zm111 (show zM111.2.2.2.2.2[6]? = some (12, 3, .invokevirtual 116, [0, 94, 0, 3]) from rfl) zm94 hr8.1 (hq1.1.tr hr8).1 rfl (show aCr 0 b7 [.ref b7] 1 = some ([some (.ref b7)], []) from rfl)) hq9 ?_
      refine Q.run zm111 2 (i' := 9) (ls' := [some (.ref 106), some (.int x1), some (.int x2), some (.int x3), some (.int r11)]) (st' := [.ref 106]) rfl ?_
      rcases vN_so h with ⟨hv12, h⟩ | ⟨b13, hv12, h⟩
      · refine Q.map (A.gf (gI_of zm111 (e := (18, 3, .getfield 48, [4, 6])) rfl) (hq1.1.lt (a := 106) (by decide)) (hq1.1.T (a := 106) (p := (4, 13)) 28 rfl rfl) (by decide) hv12) ?_
        refine Q.run zm111 3 (i' := 13) (ls' := [some (.ref 106), some (.int x1), some (.int x2), some (.int x3), some (.int r11)]) (st' := [.int 0, .int x1, .int r11, .null]) rfl ?_
        cases h
      · obtain ⟨hr14, h⟩ := ite_so h
        refine Q.map (A.gf (gI_of zm111 (e := (18, 3, .getfield 48, [4, 6])) rfl) (hq1.1.lt (a := 106) (by decide)) (hq1.1.T (a := 106) (p := (4, 13)) 28 rfl rfl) (by decide) hv12) ?_
        refine Q.run zm111 3 (i' := 13) (ls' := [some (.ref 106), some (.int x1), some (.int x2), some (.int x3), some (.int r11)]) (st' := [.int 0, .int x1, .int r11, .ref b13]) rfl ?_
        obtain ⟨s17, hc16, h⟩ := bu_so h
        have hq15 : Q 1 sio tt cc d 72 0 [some (.ref b13), some (.int r11), some (.int x1), some (.int 0), none] [] s3 (.inl none, s17) := dt72 (by omega) hq1.1 hr14 hc16
        refine Q.callV (gC_vi zm111 (show zM111.2.2.2.2.2[13]? = some (25, 3, .invokevirtual 150, [0, 72, 3, 3]) from rfl) zm72 hr14.1 (hq1.1.tr hr14).1 rfl (show aCr 3 b13 [.int 0, .int x1, .int r11, .ref b13] 5 = some ([some (.ref b13), some (.int r11), some (.int x1), some (.int 0), none], []) from rfl)) hq15 ?_
        have hr18 : aK s17 b7 3 := hq15.2.1.k hr8
        have hr19 : aK s17 b13 3 := hq15.2.1.k hr14
        refine Q.run zm111 1 (i' := 15) (ls' := [some (.ref 106), some (.int x1), some (.int x2), some (.int x3), some (.int r11)]) (st' := [.ref 106]) rfl ?_
        rcases vN_so h with ⟨hv20, h⟩ | ⟨b21, hv20, h⟩
        · refine Q.map (A.gf (gI_of zm111 (e := (29, 3, .getfield 48, [4, 6])) rfl) (hq15.1.lt (a := 106) (by decide)) (hq15.1.T (a := 106) (p := (4, 13)) 28 rfl rfl) (by decide) hv20) ?_
          refine Q.run zm111 3 (i' := 19) (ls' := [some (.ref 106), some (.int x1), some (.int x2), some (.int x3), some (.int r11)]) (st' := [.int x2, .int 8, .int r11, .null]) rfl ?_
          cases h
        · obtain ⟨hr22, h⟩ := ite_so h
          refine Q.map (A.gf (gI_of zm111 (e := (29, 3, .getfield 48, [4, 6])) rfl) (hq15.1.lt (a := 106) (by decide)) (hq15.1.T (a := 106) (p := (4, 13)) 28 rfl rfl) (by decide) hv20) ?_
          refine Q.run zm111 3 (i' := 19) (ls' := [some (.ref 106), some (.int x1), some (.int x2), some (.int x3), some (.int r11)]) (st' := [.int x2, .int 8, .int r11, .ref b21]) rfl ?_
          obtain ⟨s25, hc24, h⟩ := bu_so h
          have hq23 : Q 1 sio tt cc d 60 0 [some (.ref b21), some (.int r11), some (.int 8), some (.int x2)] [] s17 (.inl none, s25) := dt60 (by omega) hq15.1 hr22 hc24
          refine Q.callV (gC_vi zm111 (show zM111.2.2.2.2.2[19]? = some (37, 3, .invokevirtual 180, [0, 60, 3, 3]) from rfl) zm60 hr22.1 (hq15.1.tr hr22).1 rfl (show aCr 3 b21 [.int x2, .int 8, .int r11, .ref b21] 4 = some ([some (.ref b21), some (.int r11), some (.int 8), some (.int x2)], []) from rfl)) hq23 ?_
          have hr26 : aK s25 b7 3 := hq23.2.1.k hr18
          have hr27 : aK s25 b13 3 := hq23.2.1.k hr19
          have hr28 : aK s25 b21 3 := hq23.2.1.k hr22
          refine Q.run zm111 2 (i' := 22) (ls' := [some (.ref 106), some (.int x1), some (.int x2), some (.int x3), some (.int r11)]) (st' := [.int r11, .ref 106]) rfl ?_
          obtain ⟨s31, hc30, h⟩ := bu_so h
          have hq29 : Q 1 sio tt cc d 81 0 [some (.ref 106), some (.int r11)] [] s25 (.inl none, s31) := dt81 (by omega) hq23.1  hc30
          refine Q.callV (gC_vi zm111 (show zM111.2.2.2.2.2[22]? = some (43, 3, .invokevirtual 186, [0, 81, 1, 4]) from rfl) zm81 (hq23.1.lt (a := 106) (by decide)) (hq23.1.T (a := 106) (p := (4, 13)) 28 rfl rfl) rfl (show aCr 1 106 [.int r11, .ref 106] 2 = some ([some (.ref 106), some (.int r11)], []) from rfl)) hq29 ?_
          have hr32 : aK s31 b7 3 := hq29.2.1.k hr26
          have hr33 : aK s31 b13 3 := hq29.2.1.k hr27
          have hr34 : aK s31 b21 3 := hq29.2.1.k hr28
          cases h
          exact Q.ret (A.rv zm111 (show zM111.2.2.2.2.2[23]? = some (46, 1, .return_, []) from rfl) rfl) hq29.1
/-! 108 FormulaTrees$Reader.readError()V -/
set_option maxRecDepth 100000 in
theorem zm108 : zP[108]? = some zM108 := rfl
def dm108_38 (x1 : Int32) (x2 : Int32) (s : aS) : Option (aS) :=
  bu (dm110 x2) fun r3 =>
  vR r3 fun b4 =>
  if aK s b4 70 then
    bu (dm254 b4 s) fun r9 =>
    nx (wI s 106 7 (x1 + r9)) fun s10 =>
    bu (dm111 2 x2 x1 s10) fun s16 =>
    some s16
  else none
set_option maxRecDepth 100000 in
theorem dt108_38 {sio : Bool} {tt : Nat} {cc : Nat → Nat → Int32} {d : Nat} (hd : 6 ≤ d) {x1 : Int32} {x2 : Int32} {x3 : Int32} {g4 : Option Value} {s : aS} (hl : Ly tt cc s) {o : aS} (h : dm108_38  x1 x2 s = some o) : Q 1 sio tt cc d 108 38 [some (.ref 106), some (.int x1), some (.int x2), some (.int x3), g4] [] s (.inl none, o) := by
  unfold dm108_38 at h
  obtain ⟨d, rfl⟩ : ∃ e, d = e + 1 := ⟨d - 1, by omega⟩
  refine Q.run zm108 3 (i' := 41) (ls' := [some (.ref 106), some (.int x1), some (.int x2), some (.int x3), g4]) (st' := [.int x2, .int x1, .ref 106]) rfl ?_
  obtain ⟨r3, hc2, h⟩ := bu_so h
  have hq1 : Q 1 sio tt cc d 110 0 [some (.int x2)] [] s (.inl (some r3), s) := dt110 (by omega) hl  hc2
  obtain ⟨b4, hv5, h9⟩ := vR_so h
  clear h
  subst hv5
  have h := h9
  obtain ⟨hr6, h⟩ := ite_so h
  refine Q.callR (gC_st zm108 (show zM108.2.2.2.2.2[41]? = some (70, 3, .invokestatic 231, [0, 110, 1]) from rfl) zm110 (show aC 1 [.int x2, .int x1, .ref 106] 1 = some ([some (.int x2)], [.int x1, .ref 106]) from rfl)) hq1 ?_
  obtain ⟨r9, hc8, h⟩ := bu_so h
  have hq7 : Q 1 sio tt cc d 254 0 [some (.ref b4)] [] s (.inl (some (.int r9)), s) := dt254 (by omega) hl hr6 hc8
  refine Q.callI (gC_vi zm108 (show zM108.2.2.2.2.2[42]? = some (73, 3, .invokevirtual 235, [0, 254, 0, 70]) from rfl) zm254 hr6.1 (hl.tx hr6).1 rfl (show aCr 0 b4 [.ref b4, .int x1, .ref 106] 1 = some ([some (.ref b4)], [.int x1, .ref 106]) from rfl)) hq7 ?_
  refine Q.run zm108 1 (i' := 44) (ls' := [some (.ref 106), some (.int x1), some (.int x2), some (.int x3), g4]) (st' := [.int (x1 + r9), .ref 106]) rfl ?_
  obtain ⟨s10, hs11, h⟩ := nx_so h
  refine Q.pf hs11 rfl (gI_of zm108 (e := (77, 3, .putfield 61, [4, 7, 0])) rfl) (hl.lt (a := 106) (by decide)) (by decide) (hl.T (a := 106) (p := (4, 13)) 28 rfl rfl) (by decide) rfl rfl ?_
  have hl12 : Ly tt cc s10 := by rw [hs11]; exact hl.wId (by decide)
  have hr13 : aK s10 b4 70 := by rw [hs11]; exact hr6
  refine Q.run zm108 4 (i' := 49) (ls' := [some (.ref 106), some (.int x1), some (.int x2), some (.int x3), g4]) (st' := [.int x1, .int x2, .int 2, .ref 106]) rfl ?_
  obtain ⟨s16, hc15, h⟩ := bu_so h
  have hq14 : Q 1 sio tt cc d 111 0 [some (.ref 106), some (.int 2), some (.int x2), some (.int x1), none] [] s10 (.inl none, s16) := dt111 (by omega) hl12  hc15
  refine Q.callV (gC_vi zm108 (show zM108.2.2.2.2.2[49]? = some (84, 3, .invokevirtual 238, [0, 111, 3, 4]) from rfl) zm111 (hl12.lt (a := 106) (by decide)) (hl12.T (a := 106) (p := (4, 13)) 28 rfl rfl) rfl (show aCr 3 106 [.int x1, .int x2, .int 2, .ref 106] 5 = some ([some (.ref 106), some (.int 2), some (.int x2), some (.int x1), none], []) from rfl)) hq14 ?_
  have hr17 : aK s16 b4 70 := hq14.2.1.k hr13
  cases h
  exact Q.ret (A.rv zm108 (show zM108.2.2.2.2.2[50]? = some (87, 1, .return_, []) from rfl) rfl) hq14.1
def dm108_35 (k7 : Int32 → Int32 → Int32 → aS → Option (aS)) (x1 : Int32) (x3 : Int32) (y0 : Int32) (s : aS) : Option (aS) :=
  k7 x1 y0 (x3 + 1) s
set_option maxRecDepth 100000 in
theorem dt108_35 {sio : Bool} {tt : Nat} {cc : Nat → Nat → Int32} {d : Nat} (hd : 6 ≤ d) {k7 : Int32 → Int32 → Int32 → aS → Option (aS)} (hk7 : ∀ {x1 : Int32} {x2 : Int32} {x3 : Int32} {g4 : Option Value} {s : aS}, Ly tt cc s → ∀ {o : aS}, k7 x1 x2 x3 s = some o → Q 1 sio tt cc d 108 7 [some (.ref 106), some (.int x1), some (.int x2), some (.int x3), g4] [] s (.inl none, o)) {x1 : Int32} {x3 : Int32} {y0 : Int32} {x2 : Int32} {x4 : Int32} {s : aS} (hl : Ly tt cc s) {o : aS} (h : dm108_35 k7 x1 x3 y0 s = some o) : Q 1 sio tt cc d 108 35 [some (.ref 106), some (.int x1), some (.int x2), some (.int x3), some (.int x4)] [.int y0] s (.inl none, o) := by
  unfold dm108_35 at h
  obtain ⟨d, rfl⟩ : ∃ e, d = e + 1 := ⟨d - 1, by omega⟩
  refine Q.run zm108 3 (i' := 7) (ls' := [some (.ref 106), some (.int x1), some (.int y0), some (.int (x3 + 1)), some (.int x4)]) (st' := []) rfl ?_
  exact hk7 hl  h
def dm108_7 : Nat → Int32 → Int32 → Int32 → aS → Option (aS)
  | 0, _, _, _, _ => none
  | n + 1, x1, x2, x3, s =>
    if 7 < x3 then
      dm108_38 x1 x2 s
    else
      if x2 = 0 then
        bv (dm109 x1 x3 s) fun r6 s5 =>
        if r6 = 0 then
          nx (wI s5 106 8 ((x1 + x3) - 1)) fun s8 =>
          some s8
        else
          bu (dm110 r6) fun r13 =>
          vR r13 fun b14 =>
          if aK s5 b14 70 then
            bu (dm254 b14 s5) fun r19 =>
            if r19 = x3 then
              dm108_35 (dm108_7 n) x1 x3 r6 s5
            else
              dm108_35 (dm108_7 n) x1 x3 0 s5
          else none
      else
        dm108_38 x1 x2 s
set_option maxRecDepth 100000 in
theorem dt108_7 {sio : Bool} {tt : Nat} {cc : Nat → Nat → Int32} {d : Nat} (hd : 6 ≤ d) : ∀ (n : Nat) {x1 : Int32} {x2 : Int32} {x3 : Int32} {g4 : Option Value} {s : aS} (_ : Ly tt cc s) {o : aS} (_ : dm108_7  n x1 x2 x3 s = some o), Q 1 sio tt cc d 108 7 [some (.ref 106), some (.int x1), some (.int x2), some (.int x3), g4] [] s (.inl none, o) := by
  obtain ⟨d, rfl⟩ : ∃ e, d = e + 1 := ⟨d - 1, by omega⟩
  intro n
  induction n with
  | zero => intro x1 x2 x3 g4 s hl o h; rw [dm108_7] at h; cases h
  | succ n ih =>
    intro x1 x2 x3 g4 s hl o h
    rw [dm108_7] at h
    refine Q.run zm108 2 (i' := 9) (ls' := [some (.ref 106), some (.int x1), some (.int x2), some (.int x3), g4]) (st' := [.int 7, .int x3]) rfl ?_
    by_cases hc1 : 7 < x3
    · rw [if_pos hc1] at h
      refine Q.map (A.bT (gI_of zm108 (e := (12, 3, .if_icmp .gt 55, [38])) rfl) (decide_eq_true hc1)) ?_
      exact dt108_38 hd hl  h
    · rw [if_neg hc1] at h
      refine Q.map (A.bF (gI_of zm108 (e := (12, 3, .if_icmp .gt 55, [38])) rfl) (fun q => hc1 (of_decide_eq_true q))) ?_
      refine Q.run zm108 1 (i' := 11) (ls' := [some (.ref 106), some (.int x1), some (.int x2), some (.int x3), g4]) (st' := [.int x2]) rfl ?_
      by_cases hc2 : x2 = 0
      · rw [if_pos hc2] at h
        refine Q.map (A.zF (gI_of zm108 (e := (16, 3, .ifCond .ne 51, [38])) rfl) (fun q => of_decide_eq_true q hc2)) ?_
        refine Q.run zm108 3 (i' := 15) (ls' := [some (.ref 106), some (.int x1), some (.int x2), some (.int x3), g4]) (st' := [.int x3, .int x1, .ref 106]) rfl ?_
        obtain ⟨r6, s5, hc4, h⟩ := bv_so h
        have hq3 : Q 1 sio tt cc d 109 0 [some (.ref 106), some (.int x1), some (.int x3), none] [] s (.inl (some (.int r6)), s5) := dt109 (by omega) hl  hc4
        refine Q.callI (gC_vi zm108 (show zM108.2.2.2.2.2[15]? = some (22, 3, .invokevirtual 228, [0, 109, 2, 4]) from rfl) zm109 (hl.lt (a := 106) (by decide)) (hl.T (a := 106) (p := (4, 13)) 28 rfl rfl) rfl (show aCr 2 106 [.int x3, .int x1, .ref 106] 4 = some ([some (.ref 106), some (.int x1), some (.int x3), none], []) from rfl)) hq3 ?_
        refine Q.run zm108 2 (i' := 18) (ls' := [some (.ref 106), some (.int x1), some (.int x2), some (.int x3), some (.int r6)]) (st' := [.int r6]) rfl ?_
        by_cases hc7 : r6 = 0
        · rw [if_pos hc7] at h
          refine Q.map (A.zF (gI_of zm108 (e := (29, 3, .ifCond .ne 13, [27])) rfl) (fun q => of_decide_eq_true q hc7)) ?_
          refine Q.run zm108 6 (i' := 25) (ls' := [some (.ref 106), some (.int x1), some (.int x2), some (.int x3), some (.int r6)]) (st' := [.int ((x1 + x3) - 1), .ref 106]) rfl ?_
          obtain ⟨s8, hs9, h⟩ := nx_so h
          refine Q.pf hs9 rfl (gI_of zm108 (e := (38, 3, .putfield 65, [4, 8, 0])) rfl) (hq3.1.lt (a := 106) (by decide)) (by decide) (hq3.1.T (a := 106) (p := (4, 13)) 28 rfl rfl) (by decide) rfl rfl ?_
          have hl10 : Ly tt cc s8 := by rw [hs9]; exact hq3.1.wId (by decide)
          cases h
          exact Q.ret (A.rv zm108 (show zM108.2.2.2.2.2[26]? = some (41, 1, .return_, []) from rfl) rfl) hl10
        · rw [if_neg hc7] at h
          refine Q.map (A.zT (gI_of zm108 (e := (29, 3, .ifCond .ne 13, [27])) rfl) (decide_eq_true hc7)) ?_
          refine Q.run zm108 1 (i' := 28) (ls' := [some (.ref 106), some (.int x1), some (.int x2), some (.int x3), some (.int r6)]) (st' := [.int r6]) rfl ?_
          obtain ⟨r13, hc12, h⟩ := bu_so h
          have hq11 : Q 1 sio tt cc d 110 0 [some (.int r6)] [] s5 (.inl (some r13), s5) := dt110 (by omega) hq3.1  hc12
          obtain ⟨b14, hv15, h9⟩ := vR_so h
          clear h
          subst hv15
          have h := h9
          obtain ⟨hr16, h⟩ := ite_so h
          refine Q.callR (gC_st zm108 (show zM108.2.2.2.2.2[28]? = some (44, 3, .invokestatic 231, [0, 110, 1]) from rfl) zm110 (show aC 1 [.int r6] 1 = some ([some (.int r6)], []) from rfl)) hq11 ?_
          obtain ⟨r19, hc18, h⟩ := bu_so h
          have hq17 : Q 1 sio tt cc d 254 0 [some (.ref b14)] [] s5 (.inl (some (.int r19)), s5) := dt254 (by omega) hq3.1 hr16 hc18
          refine Q.callI (gC_vi zm108 (show zM108.2.2.2.2.2[29]? = some (47, 3, .invokevirtual 235, [0, 254, 0, 70]) from rfl) zm254 hr16.1 (hq3.1.tx hr16).1 rfl (show aCr 0 b14 [.ref b14] 1 = some ([some (.ref b14)], []) from rfl)) hq17 ?_
          refine Q.run zm108 1 (i' := 31) (ls' := [some (.ref 106), some (.int x1), some (.int x2), some (.int x3), some (.int r6)]) (st' := [.int x3, .int r19]) rfl ?_
          by_cases hc20 : r19 = x3
          · rw [if_pos hc20] at h
            refine Q.map (A.bF (gI_of zm108 (e := (51, 3, .if_icmp .ne 8, [34])) rfl) (fun q => of_decide_eq_true q hc20)) ?_
            refine Q.run zm108 2 (i' := 35) (ls' := [some (.ref 106), some (.int x1), some (.int x2), some (.int x3), some (.int r6)]) (st' := [.int r6]) rfl ?_
            exact dt108_35 hd ih hq3.1  h
          · rw [if_neg hc20] at h
            refine Q.map (A.bT (gI_of zm108 (e := (51, 3, .if_icmp .ne 8, [34])) rfl) (decide_eq_true hc20)) ?_
            refine Q.run zm108 1 (i' := 35) (ls' := [some (.ref 106), some (.int x1), some (.int x2), some (.int x3), some (.int r6)]) (st' := [.int 0]) rfl ?_
            exact dt108_35 hd ih hq3.1  h
      · rw [if_neg hc2] at h
        refine Q.map (A.zT (gI_of zm108 (e := (16, 3, .ifCond .ne 51, [38])) rfl) (decide_eq_true hc2)) ?_
        exact dt108_38 hd hl  h
def dm108 (s : aS) : Option (aS) :=
  dm108_7 5000 (sI s 106 7) 0 1 s
set_option maxRecDepth 100000 in
theorem dt108 {sio : Bool} {tt : Nat} {cc : Nat → Nat → Int32} {d : Nat} (hd : 6 ≤ d) {s : aS} (hl : Ly tt cc s) {o : aS} (h : dm108  s = some o) : Q 1 sio tt cc d 108 0 [some (.ref 106), none, none, none, none] [] s (.inl none, o) := by
  unfold dm108 at h
  obtain ⟨d, rfl⟩ : ∃ e, d = e + 1 := ⟨d - 1, by omega⟩
  refine Q.run zm108 1 (i' := 1) (ls' := [some (.ref 106), none, none, none, none]) (st' := [.ref 106]) rfl ?_
  refine Q.map (A.gf (gI_of zm108 (e := (1, 3, .getfield 61, [4, 7])) rfl) (hl.lt (a := 106) (by decide)) (hl.T (a := 106) (p := (4, 13)) 28 rfl rfl) (by decide) rfl) ?_
  refine Q.run zm108 5 (i' := 7) (ls' := [some (.ref 106), some (.int (sI s 106 7)), some (.int 0), some (.int 1), none]) (st' := []) rfl ?_
  exact dt108_7 hd _ hl  h
