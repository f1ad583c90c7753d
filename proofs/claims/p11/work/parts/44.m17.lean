/-! 132 FormulaTrees.lastOf(Z)I -/
set_option maxRecDepth 100000 in
theorem zm132 : zP[132]? = some zM132 := rfl
def dm132 (x0 : Int32) : Option (Int32) :=
  if x0 = 0 then
    some 16384
  else
    some 1048576
set_option maxRecDepth 100000 in
theorem dt132 {sio : Bool} {tt : Nat} {cc : Nat → Nat → Int32} {d : Nat} (hd : 0 ≤ d) {x0 : Int32} {s : aS} (hl : Ly tt cc s) {o : Int32} (h : dm132  x0 = some o) : Q 1 sio tt cc d 132 0 [some (.int x0)] [] s (.inl (some (.int o)), s) := by
  unfold dm132 at h
  refine Q.run zm132 1 (i' := 1) (ls' := [some (.int x0)]) (st' := [.int x0]) rfl ?_
  by_cases hc1 : x0 = 0
  · rw [if_pos hc1] at h
    refine Q.map (A.zT (gI_of zm132 (e := (1, 3, .ifCond .eq 8, [4])) rfl) (decide_eq_true hc1)) ?_
    refine Q.run zm132 1 (i' := 5) (ls' := [some (.int x0)]) (st' := [.int 16384]) rfl ?_
    cases h
    exact Q.ret (A.ri zm132 (show zM132.2.2.2.2.2[5]? = some (12, 1, .ireturn, []) from rfl) rfl rfl) hl
  · rw [if_neg hc1] at h
    refine Q.map (A.zF (gI_of zm132 (e := (1, 3, .ifCond .eq 8, [4])) rfl) (fun q => hc1 (of_decide_eq_true q))) ?_
    refine Q.run zm132 2 (i' := 5) (ls' := [some (.int x0)]) (st' := [.int 1048576]) rfl ?_
    cases h
    exact Q.ret (A.ri zm132 (show zM132.2.2.2.2.2[5]? = some (12, 1, .ireturn, []) from rfl) rfl rfl) hl
/-! 130 FormulaTrees$Tree.moveNode(III)V -/
set_option maxRecDepth 100000 in
theorem zm130 : zP[130]? = some zM130 := rfl
def dm130_55 (b0 : Nat) (x1 : Int32) (x4 : Int32) (s : aS) : Option (aS) :=
  if x4 = 0 then
    bu (dm58 b0 x1 s) fun s4 =>
    some s4
  else
    bu (dm101 b0 x1 s) fun s8 =>
    some s8
set_option maxRecDepth 100000 in
theorem dt130_55 {sio : Bool} {tt : Nat} {cc : Nat → Nat → Int32} {d : Nat} (hd : 3 ≤ d) {b0 : Nat} {x1 : Int32} {x4 : Int32} {x2 : Int32} {x3 : Int32} {x5 : Int32} {g6 : Option Value} {g7 : Option Value} {s : aS} (hl : Ly tt cc s) (hk_b0 : aK s b0 3) {o : aS} (h : dm130_55  b0 x1 x4 s = some o) : Q 1 sio tt cc d 130 55 [some (.ref b0), some (.int x1), some (.int x2), some (.int x3), some (.int x4), some (.int x5), g6, g7] [] s (.inl none, o) := by
  unfold dm130_55 at h
  obtain ⟨d, rfl⟩ : ∃ e, d = e + 1 := ⟨d - 1, by omega⟩
  refine Q.run zm130 1 (i' := 56) (ls' := [some (.ref b0), some (.int x1), some (.int x2), some (.int x3), some (.int x4), some (.int x5), g6, g7]) (st' := [.int x4]) rfl ?_
  by_cases hc1 : x4 = 0
  · rw [if_pos hc1] at h
    refine Q.map (A.zT (gI_of zm130 (e := (111, 3, .ifCond .eq 11, [61])) rfl) (decide_eq_true hc1)) ?_
    refine Q.run zm130 2 (i' := 63) (ls' := [some (.ref b0), some (.int x1), some (.int x2), some (.int x3), some (.int x4), some (.int x5), g6, g7]) (st' := [.int x1, .ref b0]) rfl ?_
    obtain ⟨s4, hc3, h⟩ := bu_so h
    have hq2 : Q 1 sio tt cc d 58 0 [some (.ref b0), some (.int x1)] [] s (.inl none, s4) := dt58 (by omega) hl hk_b0 hc3
    refine Q.callV (gC_vi zm130 (show zM130.2.2.2.2.2[63]? = some (124, 3, .invokevirtual 92, [0, 58, 1, 3]) from rfl) zm58 hk_b0.1 (hl.tr hk_b0).1 rfl (show aCr 1 b0 [.int x1, .ref b0] 2 = some ([some (.ref b0), some (.int x1)], []) from rfl)) hq2 ?_
    have hr5 : aK s4 b0 3 := hq2.2.1.k hk_b0
    cases h
    exact Q.ret (A.rv zm130 (show zM130.2.2.2.2.2[64]? = some (127, 1, .return_, []) from rfl) rfl) hq2.1
  · rw [if_neg hc1] at h
    refine Q.map (A.zF (gI_of zm130 (e := (111, 3, .ifCond .eq 11, [61])) rfl) (fun q => hc1 (of_decide_eq_true q))) ?_
    refine Q.run zm130 2 (i' := 59) (ls' := [some (.ref b0), some (.int x1), some (.int x2), some (.int x3), some (.int x4), some (.int x5), g6, g7]) (st' := [.int x1, .ref b0]) rfl ?_
    obtain ⟨s8, hc7, h⟩ := bu_so h
    have hq6 : Q 1 sio tt cc d 101 0 [some (.ref b0), some (.int x1)] [] s (.inl none, s8) := dt101 (by omega) hl hk_b0 hc7
    refine Q.callV (gC_vi zm130 (show zM130.2.2.2.2.2[59]? = some (116, 3, .invokevirtual 85, [0, 101, 1, 3]) from rfl) zm101 hk_b0.1 (hl.tr hk_b0).1 rfl (show aCr 1 b0 [.int x1, .ref b0] 2 = some ([some (.ref b0), some (.int x1)], []) from rfl)) hq6 ?_
    have hr9 : aK s8 b0 3 := hq6.2.1.k hk_b0
    refine Q.run zm130 1 (i' := 64) (ls' := [some (.ref b0), some (.int x1), some (.int x2), some (.int x3), some (.int x4), some (.int x5), g6, g7]) (st' := []) rfl ?_
    cases h
    exact Q.ret (A.rv zm130 (show zM130.2.2.2.2.2[64]? = some (127, 1, .return_, []) from rfl) rfl) hq6.1
def dm130_47 (k4 : Nat → Int32 → Int32 → Int32 → Int32 → Int32 → aS → Option (aS)) (b0 : Nat) (x1 : Int32) (x2 : Int32) (x3 : Int32) (x5 : Int32) (x7 : Int32) (y0 : Int32) (s : aS) : Option (aS) :=
  bu (dm60 b0 x1 x5 x7 s) fun s3 =>
  k4 b0 x1 x2 x3 y0 (x5 + 1) s3
set_option maxRecDepth 100000 in
theorem dt130_47 {sio : Bool} {tt : Nat} {cc : Nat → Nat → Int32} {d : Nat} (hd : 3 ≤ d) {k4 : Nat → Int32 → Int32 → Int32 → Int32 → Int32 → aS → Option (aS)} (hk4 : ∀ {b0 : Nat} {x1 : Int32} {x2 : Int32} {x3 : Int32} {x4 : Int32} {x5 : Int32} {g6 : Option Value} {g7 : Option Value} {s : aS}, Ly tt cc s → aK s b0 3 → ∀ {o : aS}, k4 b0 x1 x2 x3 x4 x5 s = some o → Q 1 sio tt cc d 130 4 [some (.ref b0), some (.int x1), some (.int x2), some (.int x3), some (.int x4), some (.int x5), g6, g7] [] s (.inl none, o)) {b0 : Nat} {x1 : Int32} {x2 : Int32} {x3 : Int32} {x5 : Int32} {x7 : Int32} {y0 : Int32} {x4 : Int32} {x6 : Int32} {s : aS} (hl : Ly tt cc s) (hk_b0 : aK s b0 3) {o : aS} (h : dm130_47 k4 b0 x1 x2 x3 x5 x7 y0 s = some o) : Q 1 sio tt cc d 130 47 [some (.ref b0), some (.int x1), some (.int x2), some (.int x3), some (.int x4), some (.int x5), some (.int x6), some (.int x7)] [.int y0] s (.inl none, o) := by
  unfold dm130_47 at h
  obtain ⟨d, rfl⟩ : ∃ e, d = e + 1 := ⟨d - 1, by omega⟩
  refine Q.run zm130 5 (i' := 52) (ls' := [some (.ref b0), some (.int x1), some (.int x2), some (.int x3), some (.int y0), some (.int x5), some (.int x6), some (.int x7)]) (st' := [.int x7, .int x5, .int x1, .ref b0]) rfl ?_
  obtain ⟨s3, hc2, h⟩ := bu_so h
  have hq1 : Q 1 sio tt cc d 60 0 [some (.ref b0), some (.int x1), some (.int x5), some (.int x7)] [] s (.inl none, s3) := dt60 (by omega) hl hk_b0 hc2
  refine Q.callV (gC_vi zm130 (show zM130.2.2.2.2.2[52]? = some (100, 3, .invokevirtual 51, [0, 60, 3, 3]) from rfl) zm60 hk_b0.1 (hl.tr hk_b0).1 rfl (show aCr 3 b0 [.int x7, .int x5, .int x1, .ref b0] 4 = some ([some (.ref b0), some (.int x1), some (.int x5), some (.int x7)], []) from rfl)) hq1 ?_
  have hr4 : aK s3 b0 3 := hq1.2.1.k hk_b0
  refine Q.run zm130 2 (i' := 4) (ls' := [some (.ref b0), some (.int x1), some (.int x2), some (.int x3), some (.int y0), some (.int (x5 + 1)), some (.int x6), some (.int x7)]) (st' := []) rfl ?_
  exact hk4 hq1.1 hr4 h
def dm130_46 (k4 : Nat → Int32 → Int32 → Int32 → Int32 → Int32 → aS → Option (aS)) (b0 : Nat) (x1 : Int32) (x2 : Int32) (x3 : Int32) (x5 : Int32) (x7 : Int32) (s : aS) : Option (aS) :=
  dm130_47 k4 b0 x1 x2 x3 x5 x7 0 s
set_option maxRecDepth 100000 in
theorem dt130_46 {sio : Bool} {tt : Nat} {cc : Nat → Nat → Int32} {d : Nat} (hd : 3 ≤ d) {k4 : Nat → Int32 → Int32 → Int32 → Int32 → Int32 → aS → Option (aS)} (hk4 : ∀ {b0 : Nat} {x1 : Int32} {x2 : Int32} {x3 : Int32} {x4 : Int32} {x5 : Int32} {g6 : Option Value} {g7 : Option Value} {s : aS}, Ly tt cc s → aK s b0 3 → ∀ {o : aS}, k4 b0 x1 x2 x3 x4 x5 s = some o → Q 1 sio tt cc d 130 4 [some (.ref b0), some (.int x1), some (.int x2), some (.int x3), some (.int x4), some (.int x5), g6, g7] [] s (.inl none, o)) {b0 : Nat} {x1 : Int32} {x2 : Int32} {x3 : Int32} {x5 : Int32} {x7 : Int32} {x4 : Int32} {x6 : Int32} {s : aS} (hl : Ly tt cc s) (hk_b0 : aK s b0 3) {o : aS} (h : dm130_46 k4 b0 x1 x2 x3 x5 x7 s = some o) : Q 1 sio tt cc d 130 46 [some (.ref b0), some (.int x1), some (.int x2), some (.int x3), some (.int x4), some (.int x5), some (.int x6), some (.int x7)] [] s (.inl none, o) := by
  unfold dm130_46 at h
  obtain ⟨d, rfl⟩ : ∃ e, d = e + 1 := ⟨d - 1, by omega⟩
  refine Q.run zm130 1 (i' := 47) (ls' := [some (.ref b0), some (.int x1), some (.int x2), some (.int x3), some (.int x4), some (.int x5), some (.int x6), some (.int x7)]) (st' := [.int 0]) rfl ?_
  exact dt130_47 hd hk4 hl hk_b0 h
def dm130_37 (k4 : Nat → Int32 → Int32 → Int32 → Int32 → Int32 → aS → Option (aS)) (b0 : Nat) (x1 : Int32) (x2 : Int32) (x3 : Int32) (x5 : Int32) (x6 : Int32) (x7 : Int32) (s : aS) : Option (aS) :=
  if x7 < 1 then
    dm130_46 k4 b0 x1 x2 x3 x5 x7 s
  else
    bu (dm132 x6) fun r4 =>
    if r4 < x7 then
      dm130_46 k4 b0 x1 x2 x3 x5 x7 s
    else
      dm130_47 k4 b0 x1 x2 x3 x5 x7 1 s
set_option maxRecDepth 100000 in
theorem dt130_37 {sio : Bool} {tt : Nat} {cc : Nat → Nat → Int32} {d : Nat} (hd : 3 ≤ d) {k4 : Nat → Int32 → Int32 → Int32 → Int32 → Int32 → aS → Option (aS)} (hk4 : ∀ {b0 : Nat} {x1 : Int32} {x2 : Int32} {x3 : Int32} {x4 : Int32} {x5 : Int32} {g6 : Option Value} {g7 : Option Value} {s : aS}, Ly tt cc s → aK s b0 3 → ∀ {o : aS}, k4 b0 x1 x2 x3 x4 x5 s = some o → Q 1 sio tt cc d 130 4 [some (.ref b0), some (.int x1), some (.int x2), some (.int x3), some (.int x4), some (.int x5), g6, g7] [] s (.inl none, o)) {b0 : Nat} {x1 : Int32} {x2 : Int32} {x3 : Int32} {x5 : Int32} {x6 : Int32} {x7 : Int32} {x4 : Int32} {s : aS} (hl : Ly tt cc s) (hk_b0 : aK s b0 3) {o : aS} (h : dm130_37 k4 b0 x1 x2 x3 x5 x6 x7 s = some o) : Q 1 sio tt cc d 130 37 [some (.ref b0), some (.int x1), some (.int x2), some (.int x3), some (.int x4), some (.int x5), some (.int x6), some (.int x7)] [] s (.inl none, o) := by
  unfold dm130_37 at h
  obtain ⟨d, rfl⟩ : ∃ e, d = e + 1 := ⟨d - 1, by omega⟩
  refine Q.run zm130 2 (i' := 39) (ls' := [some (.ref b0), some (.int x1), some (.int x2), some (.int x3), some (.int x4), some (.int x5), some (.int x6), some (.int x7)]) (st' := [.int 1, .int x7]) rfl ?_
  by_cases hc1 : x7 < 1
  · rw [if_pos hc1] at h
    refine Q.map (A.bT (gI_of zm130 (e := (74, 3, .if_icmp .lt 17, [46])) rfl) (decide_eq_true hc1)) ?_
    exact dt130_46 hd hk4 hl hk_b0 h
  · rw [if_neg hc1] at h
    refine Q.map (A.bF (gI_of zm130 (e := (74, 3, .if_icmp .lt 17, [46])) rfl) (fun q => hc1 (of_decide_eq_true q))) ?_
    refine Q.run zm130 2 (i' := 42) (ls' := [some (.ref b0), some (.int x1), some (.int x2), some (.int x3), some (.int x4), some (.int x5), some (.int x6), some (.int x7)]) (st' := [.int x6, .int x7]) rfl ?_
    obtain ⟨r4, hc3, h⟩ := bu_so h
    have hq2 : Q 1 sio tt cc d 132 0 [some (.int x6)] [] s (.inl (some (.int r4)), s) := dt132 (by omega) hl  hc3
    refine Q.callI (gC_st zm130 (show zM130.2.2.2.2.2[42]? = some (81, 3, .invokestatic 106, [0, 132, 1]) from rfl) zm132 (show aC 1 [.int x6, .int x7] 1 = some ([some (.int x6)], [.int x7]) from rfl)) hq2 ?_
    by_cases hc5 : r4 < x7
    · rw [if_pos hc5] at h
      refine Q.map (A.bT (gI_of zm130 (e := (84, 3, .if_icmp .gt 7, [46])) rfl) (decide_eq_true hc5)) ?_
      exact dt130_46 hd hk4 hl hk_b0 h
    · rw [if_neg hc5] at h
      refine Q.map (A.bF (gI_of zm130 (e := (84, 3, .if_icmp .gt 7, [46])) rfl) (fun q => hc5 (of_decide_eq_true q))) ?_
      refine Q.run zm130 2 (i' := 47) (ls' := [some (.ref b0), some (.int x1), some (.int x2), some (.int x3), some (.int x4), some (.int x5), some (.int x6), some (.int x7)]) (st' := [.int 1]) rfl ?_
      exact dt130_47 hd hk4 hl hk_b0 h
def dm130_35 (k4 : Nat → Int32 → Int32 → Int32 → Int32 → Int32 → aS → Option (aS)) (b0 : Nat) (x1 : Int32) (x2 : Int32) (x3 : Int32) (x5 : Int32) (x6 : Int32) (y0 : Int32) (y1 : Int32) (s : aS) : Option (aS) :=
  dm130_37 k4 b0 x1 x2 x3 x5 x6 (y0 + y1) s
set_option maxRecDepth 100000 in
theorem dt130_35 {sio : Bool} {tt : Nat} {cc : Nat → Nat → Int32} {d : Nat} (hd : 3 ≤ d) {k4 : Nat → Int32 → Int32 → Int32 → Int32 → Int32 → aS → Option (aS)} (hk4 : ∀ {b0 : Nat} {x1 : Int32} {x2 : Int32} {x3 : Int32} {x4 : Int32} {x5 : Int32} {g6 : Option Value} {g7 : Option Value} {s : aS}, Ly tt cc s → aK s b0 3 → ∀ {o : aS}, k4 b0 x1 x2 x3 x4 x5 s = some o → Q 1 sio tt cc d 130 4 [some (.ref b0), some (.int x1), some (.int x2), some (.int x3), some (.int x4), some (.int x5), g6, g7] [] s (.inl none, o)) {b0 : Nat} {x1 : Int32} {x2 : Int32} {x3 : Int32} {x5 : Int32} {x6 : Int32} {y0 : Int32} {y1 : Int32} {x4 : Int32} {x7 : Int32} {s : aS} (hl : Ly tt cc s) (hk_b0 : aK s b0 3) {o : aS} (h : dm130_35 k4 b0 x1 x2 x3 x5 x6 y0 y1 s = some o) : Q 1 sio tt cc d 130 35 [some (.ref b0), some (.int x1), some (.int x2), some (.int x3), some (.int x4), some (.int x5), some (.int x6), some (.int x7)] [.int y1, .int y0] s (.inl none, o) := by
  unfold dm130_35 at h
  obtain ⟨d, rfl⟩ : ∃ e, d = e + 1 := ⟨d - 1, by omega⟩
  refine Q.run zm130 2 (i' := 37) (ls' := [some (.ref b0), some (.int x1), some (.int x2), some (.int x3), some (.int x4), some (.int x5), some (.int x6), some (.int (y0 + y1))]) (st' := []) rfl ?_
  exact dt130_37 hd hk4 hl hk_b0 h
def dm130_18 (k4 : Nat → Int32 → Int32 → Int32 → Int32 → Int32 → aS → Option (aS)) (b0 : Nat) (x1 : Int32) (x2 : Int32) (x3 : Int32) (x5 : Int32) (y0 : Int32) (s : aS) : Option (aS) :=
  bu (dm57 b0 x1 x5 s) fun r3 =>
  bu (dm131 b0 x1 x5 s) fun r6 =>
  if r6 = 0 then
    if y0 = 0 then
      dm130_35 k4 b0 x1 x2 x3 x5 y0 r3 x3 s
    else
      dm130_35 k4 b0 x1 x2 x3 x5 y0 r3 x2 s
  else
    dm130_37 k4 b0 x1 x2 x3 x5 y0 r3 s
set_option maxRecDepth 100000 in
theorem dt130_18 {sio : Bool} {tt : Nat} {cc : Nat → Nat → Int32} {d : Nat} (hd : 3 ≤ d) {k4 : Nat → Int32 → Int32 → Int32 → Int32 → Int32 → aS → Option (aS)} (hk4 : ∀ {b0 : Nat} {x1 : Int32} {x2 : Int32} {x3 : Int32} {x4 : Int32} {x5 : Int32} {g6 : Option Value} {g7 : Option Value} {s : aS}, Ly tt cc s → aK s b0 3 → ∀ {o : aS}, k4 b0 x1 x2 x3 x4 x5 s = some o → Q 1 sio tt cc d 130 4 [some (.ref b0), some (.int x1), some (.int x2), some (.int x3), some (.int x4), some (.int x5), g6, g7] [] s (.inl none, o)) {b0 : Nat} {x1 : Int32} {x2 : Int32} {x3 : Int32} {x5 : Int32} {y0 : Int32} {x4 : Int32} {g6 : Option Value} {g7 : Option Value} {s : aS} (hl : Ly tt cc s) (hk_b0 : aK s b0 3) {o : aS} (h : dm130_18 k4 b0 x1 x2 x3 x5 y0 s = some o) : Q 1 sio tt cc d 130 18 [some (.ref b0), some (.int x1), some (.int x2), some (.int x3), some (.int x4), some (.int x5), g6, g7] [.int y0] s (.inl none, o) := by
  unfold dm130_18 at h
  obtain ⟨d, rfl⟩ : ∃ e, d = e + 1 := ⟨d - 1, by omega⟩
  refine Q.run zm130 4 (i' := 22) (ls' := [some (.ref b0), some (.int x1), some (.int x2), some (.int x3), some (.int x4), some (.int x5), some (.int y0), g7]) (st' := [.int x5, .int x1, .ref b0]) rfl ?_
  obtain ⟨r3, hc2, h⟩ := bu_so h
  have hq1 : Q 1 sio tt cc d 57 0 [some (.ref b0), some (.int x1), some (.int x5), none] [] s (.inl (some (.int r3)), s) := dt57 (by omega) hl hk_b0 hc2
  refine Q.callI (gC_vi zm130 (show zM130.2.2.2.2.2[22]? = some (41, 3, .invokevirtual 28, [0, 57, 2, 3]) from rfl) zm57 hk_b0.1 (hl.tr hk_b0).1 rfl (show aCr 2 b0 [.int x5, .int x1, .ref b0] 4 = some ([some (.ref b0), some (.int x1), some (.int x5), none], []) from rfl)) hq1 ?_
  refine Q.run zm130 4 (i' := 27) (ls' := [some (.ref b0), some (.int x1), some (.int x2), some (.int x3), some (.int x4), some (.int x5), some (.int y0), some (.int r3)]) (st' := [.int x5, .int x1, .ref b0]) rfl ?_
  obtain ⟨r6, hc5, h⟩ := bu_so h
  have hq4 : Q 1 sio tt cc d 131 0 [some (.ref b0), some (.int x1), some (.int x5), none, none, none] [] s (.inl (some (.int r6)), s) := dt131 (by omega) hl hk_b0 hc5
  refine Q.callI (gC_vi zm130 (show zM130.2.2.2.2.2[27]? = some (50, 3, .invokevirtual 102, [0, 131, 2, 3]) from rfl) zm131 hk_b0.1 (hl.tr hk_b0).1 rfl (show aCr 2 b0 [.int x5, .int x1, .ref b0] 6 = some ([some (.ref b0), some (.int x1), some (.int x5), none, none, none], []) from rfl)) hq4 ?_
  by_cases hc7 : r6 = 0
  · rw [if_pos hc7] at h
    refine Q.map (A.zF (gI_of zm130 (e := (53, 3, .ifCond .ne 18, [37])) rfl) (fun q => of_decide_eq_true q hc7)) ?_
    refine Q.run zm130 2 (i' := 31) (ls' := [some (.ref b0), some (.int x1), some (.int x2), some (.int x3), some (.int x4), some (.int x5), some (.int y0), some (.int r3)]) (st' := [.int y0, .int r3]) rfl ?_
    by_cases hc8 : y0 = 0
    · rw [if_pos hc8] at h
      refine Q.map (A.zT (gI_of zm130 (e := (60, 3, .ifCond .eq 7, [34])) rfl) (decide_eq_true hc8)) ?_
      refine Q.run zm130 1 (i' := 35) (ls' := [some (.ref b0), some (.int x1), some (.int x2), some (.int x3), some (.int x4), some (.int x5), some (.int y0), some (.int r3)]) (st' := [.int x3, .int r3]) rfl ?_
      exact dt130_35 hd hk4 hl hk_b0 h
    · rw [if_neg hc8] at h
      refine Q.map (A.zF (gI_of zm130 (e := (60, 3, .ifCond .eq 7, [34])) rfl) (fun q => hc8 (of_decide_eq_true q))) ?_
      refine Q.run zm130 2 (i' := 35) (ls' := [some (.ref b0), some (.int x1), some (.int x2), some (.int x3), some (.int x4), some (.int x5), some (.int y0), some (.int r3)]) (st' := [.int x2, .int r3]) rfl ?_
      exact dt130_35 hd hk4 hl hk_b0 h
  · rw [if_neg hc7] at h
    refine Q.map (A.zT (gI_of zm130 (e := (53, 3, .ifCond .ne 18, [37])) rfl) (decide_eq_true hc7)) ?_
    exact dt130_37 hd hk4 hl hk_b0 h
def dm130_15 (k4 : Nat → Int32 → Int32 → Int32 → Int32 → Int32 → aS → Option (aS)) (b0 : Nat) (x1 : Int32) (x2 : Int32) (x3 : Int32) (x5 : Int32) (s : aS) : Option (aS) :=
  dm130_18 k4 b0 x1 x2 x3 x5 1 s
set_option maxRecDepth 100000 in
theorem dt130_15 {sio : Bool} {tt : Nat} {cc : Nat → Nat → Int32} {d : Nat} (hd : 3 ≤ d) {k4 : Nat → Int32 → Int32 → Int32 → Int32 → Int32 → aS → Option (aS)} (hk4 : ∀ {b0 : Nat} {x1 : Int32} {x2 : Int32} {x3 : Int32} {x4 : Int32} {x5 : Int32} {g6 : Option Value} {g7 : Option Value} {s : aS}, Ly tt cc s → aK s b0 3 → ∀ {o : aS}, k4 b0 x1 x2 x3 x4 x5 s = some o → Q 1 sio tt cc d 130 4 [some (.ref b0), some (.int x1), some (.int x2), some (.int x3), some (.int x4), some (.int x5), g6, g7] [] s (.inl none, o)) {b0 : Nat} {x1 : Int32} {x2 : Int32} {x3 : Int32} {x5 : Int32} {x4 : Int32} {g6 : Option Value} {g7 : Option Value} {s : aS} (hl : Ly tt cc s) (hk_b0 : aK s b0 3) {o : aS} (h : dm130_15 k4 b0 x1 x2 x3 x5 s = some o) : Q 1 sio tt cc d 130 15 [some (.ref b0), some (.int x1), some (.int x2), some (.int x3), some (.int x4), some (.int x5), g6, g7] [] s (.inl none, o) := by
  unfold dm130_15 at h
  obtain ⟨d, rfl⟩ : ∃ e, d = e + 1 := ⟨d - 1, by omega⟩
  refine Q.run zm130 2 (i' := 18) (ls' := [some (.ref b0), some (.int x1), some (.int x2), some (.int x3), some (.int x4), some (.int x5), g6, g7]) (st' := [.int 1]) rfl ?_
  exact dt130_18 hd hk4 hl hk_b0 h
def dm130_4 : Nat → Nat → Int32 → Int32 → Int32 → Int32 → Int32 → aS → Option (aS)
  | 0, _, _, _, _, _, _, _ => none
  | n + 1, b0, x1, x2, x3, x4, x5, s =>
    if 6 < x5 then
      dm130_55 b0 x1 x4 s
    else
      if x4 = 0 then
        dm130_55 b0 x1 x4 s
      else
        if x5 = 3 then
          dm130_15 (dm130_4 n) b0 x1 x2 x3 x5 s
        else
          if x5 = 5 then
            dm130_15 (dm130_4 n) b0 x1 x2 x3 x5 s
          else
            dm130_18 (dm130_4 n) b0 x1 x2 x3 x5 0 s
set_option maxRecDepth 100000 in
theorem dt130_4 {sio : Bool} {tt : Nat} {cc : Nat → Nat → Int32} {d : Nat} (hd : 3 ≤ d) : ∀ (n : Nat) {b0 : Nat} {x1 : Int32} {x2 : Int32} {x3 : Int32} {x4 : Int32} {x5 : Int32} {g6 : Option Value} {g7 : Option Value} {s : aS} (_ : Ly tt cc s) (_ : aK s b0 3) {o : aS} (_ : dm130_4  n b0 x1 x2 x3 x4 x5 s = some o), Q 1 sio tt cc d 130 4 [some (.ref b0), some (.int x1), some (.int x2), some (.int x3), some (.int x4), some (.int x5), g6, g7] [] s (.inl none, o) := by
  obtain ⟨d, rfl⟩ : ∃ e, d = e + 1 := ⟨d - 1, by omega⟩
  intro n
  induction n with
  | zero => intro b0 x1 x2 x3 x4 x5 g6 g7 s hl hk_b0 o h; rw [dm130_4] at h; cases h
  | succ n ih =>
    intro b0 x1 x2 x3 x4 x5 g6 g7 s hl hk_b0 o h
    rw [dm130_4] at h
    refine Q.run zm130 2 (i' := 6) (ls' := [some (.ref b0), some (.int x1), some (.int x2), some (.int x3), some (.int x4), some (.int x5), g6, g7]) (st' := [.int 6, .int x5]) rfl ?_
    by_cases hc1 : 6 < x5
    · rw [if_pos hc1] at h
      refine Q.map (A.bT (gI_of zm130 (e := (10, 3, .if_icmp .gt 99, [55])) rfl) (decide_eq_true hc1)) ?_
      exact dt130_55 hd hl hk_b0 h
    · rw [if_neg hc1] at h
      refine Q.map (A.bF (gI_of zm130 (e := (10, 3, .if_icmp .gt 99, [55])) rfl) (fun q => hc1 (of_decide_eq_true q))) ?_
      refine Q.run zm130 1 (i' := 8) (ls' := [some (.ref b0), some (.int x1), some (.int x2), some (.int x3), some (.int x4), some (.int x5), g6, g7]) (st' := [.int x4]) rfl ?_
      by_cases hc2 : x4 = 0
      · rw [if_pos hc2] at h
        refine Q.map (A.zT (gI_of zm130 (e := (15, 3, .ifCond .eq 94, [55])) rfl) (decide_eq_true hc2)) ?_
        exact dt130_55 hd hl hk_b0 h
      · rw [if_neg hc2] at h
        refine Q.map (A.zF (gI_of zm130 (e := (15, 3, .ifCond .eq 94, [55])) rfl) (fun q => hc2 (of_decide_eq_true q))) ?_
        refine Q.run zm130 2 (i' := 11) (ls' := [some (.ref b0), some (.int x1), some (.int x2), some (.int x3), some (.int x4), some (.int x5), g6, g7]) (st' := [.int 3, .int x5]) rfl ?_
        by_cases hc3 : x5 = 3
        · rw [if_pos hc3] at h
          refine Q.map (A.bT (gI_of zm130 (e := (21, 3, .if_icmp .eq 9, [15])) rfl) (decide_eq_true hc3)) ?_
          exact dt130_15 hd ih hl hk_b0 h
        · rw [if_neg hc3] at h
          refine Q.map (A.bF (gI_of zm130 (e := (21, 3, .if_icmp .eq 9, [15])) rfl) (fun q => hc3 (of_decide_eq_true q))) ?_
          refine Q.run zm130 2 (i' := 14) (ls' := [some (.ref b0), some (.int x1), some (.int x2), some (.int x3), some (.int x4), some (.int x5), g6, g7]) (st' := [.int 5, .int x5]) rfl ?_
          by_cases hc4 : x5 = 5
          · rw [if_pos hc4] at h
            refine Q.map (A.bF (gI_of zm130 (e := (27, 3, .if_icmp .ne 7, [17])) rfl) (fun q => of_decide_eq_true q hc4)) ?_
            exact dt130_15 hd ih hl hk_b0 h
          · rw [if_neg hc4] at h
            refine Q.map (A.bT (gI_of zm130 (e := (27, 3, .if_icmp .ne 7, [17])) rfl) (decide_eq_true hc4)) ?_
            refine Q.run zm130 1 (i' := 18) (ls' := [some (.ref b0), some (.int x1), some (.int x2), some (.int x3), some (.int x4), some (.int x5), g6, g7]) (st' := [.int 0]) rfl ?_
            exact dt130_18 hd ih hl hk_b0 h
def dm130 (b0 : Nat) (x1 : Int32) (x2 : Int32) (x3 : Int32) (s : aS) : Option (aS) :=
  dm130_4 5000 b0 x1 x2 x3 1 3 s
set_option maxRecDepth 100000 in
theorem dt130 {sio : Bool} {tt : Nat} {cc : Nat → Nat → Int32} {d : Nat} (hd : 3 ≤ d) {b0 : Nat} {x1 : Int32} {x2 : Int32} {x3 : Int32} {s : aS} (hl : Ly tt cc s) (hk_b0 : aK s b0 3) {o : aS} (h : dm130  b0 x1 x2 x3 s = some o) : Q 1 sio tt cc d 130 0 [some (.ref b0), some (.int x1), some (.int x2), some (.int x3), none, none, none, none] [] s (.inl none, o) := by
  unfold dm130 at h
  obtain ⟨d, rfl⟩ : ∃ e, d = e + 1 := ⟨d - 1, by omega⟩
  refine Q.run zm130 4 (i' := 4) (ls' := [some (.ref b0), some (.int x1), some (.int x2), some (.int x3), some (.int 1), some (.int 3), none, none]) (st' := []) rfl ?_
  exact dt130_4 hd _ hl hk_b0 h
/-! 128 FormulaTrees$Tree.moveBy(II)V -/
set_option maxRecDepth 100000 in
theorem zm128 : zP[128]? = some zM128 := rfl
def dm128_15 (k2 : Nat → Int32 → Int32 → Int32 → aS → Option (aS)) (b0 : Nat) (x1 : Int32) (x2 : Int32) (x3 : Int32) (s : aS) : Option (aS) :=
  k2 b0 x1 x2 (x3 + 1) s
set_option maxRecDepth 100000 in
theorem dt128_15 {sio : Bool} {tt : Nat} {cc : Nat → Nat → Int32} {d : Nat} (hd : 4 ≤ d) {k2 : Nat → Int32 → Int32 → Int32 → aS → Option (aS)} (hk2 : ∀ {b0 : Nat} {x1 : Int32} {x2 : Int32} {x3 : Int32} {s : aS}, Ly tt cc s → aK s b0 3 → ∀ {o : aS}, k2 b0 x1 x2 x3 s = some o → Q 1 sio tt cc d 128 2 [some (.ref b0), some (.int x1), some (.int x2), some (.int x3)] [] s (.inl none, o)) {b0 : Nat} {x1 : Int32} {x2 : Int32} {x3 : Int32} {s : aS} (hl : Ly tt cc s) (hk_b0 : aK s b0 3) {o : aS} (h : dm128_15 k2 b0 x1 x2 x3 s = some o) : Q 1 sio tt cc d 128 15 [some (.ref b0), some (.int x1), some (.int x2), some (.int x3)] [] s (.inl none, o) := by
  unfold dm128_15 at h
  obtain ⟨d, rfl⟩ : ∃ e, d = e + 1 := ⟨d - 1, by omega⟩
  refine Q.run zm128 2 (i' := 2) (ls' := [some (.ref b0), some (.int x1), some (.int x2), some (.int (x3 + 1))]) (st' := []) rfl ?_
  exact hk2 hl hk_b0 h
def dm128_2 : Nat → Nat → Int32 → Int32 → Int32 → aS → Option (aS)
  | 0, _, _, _, _, _ => none
  | n + 1, b0, x1, x2, x3, s =>
    if (sI s b0 2) ≤ x3 then
      some s
    else
      bu (dm129 b0 x3 s) fun r4 =>
      if r4 = 0 then
        dm128_15 (dm128_2 n) b0 x1 x2 x3 s
      else
        bu (dm130 b0 x3 x1 x2 s) fun s8 =>
        dm128_15 (dm128_2 n) b0 x1 x2 x3 s8
set_option maxRecDepth 100000 in
theorem dt128_2 {sio : Bool} {tt : Nat} {cc : Nat → Nat → Int32} {d : Nat} (hd : 4 ≤ d) : ∀ (n : Nat) {b0 : Nat} {x1 : Int32} {x2 : Int32} {x3 : Int32} {s : aS} (_ : Ly tt cc s) (_ : aK s b0 3) {o : aS} (_ : dm128_2  n b0 x1 x2 x3 s = some o), Q 1 sio tt cc d 128 2 [some (.ref b0), some (.int x1), some (.int x2), some (.int x3)] [] s (.inl none, o) := by
  obtain ⟨d, rfl⟩ : ∃ e, d = e + 1 := ⟨d - 1, by omega⟩
  intro n
  induction n with
  | zero => intro b0 x1 x2 x3 s hl hk_b0 o h; rw [dm128_2] at h; cases h
  | succ n ih =>
    intro b0 x1 x2 x3 s hl hk_b0 o h
    rw [dm128_2] at h
    refine Q.run zm128 2 (i' := 4) (ls' := [some (.ref b0), some (.int x1), some (.int x2), some (.int x3)]) (st' := [.ref b0, .int x3]) rfl ?_
    refine Q.map (A.gf (gI_of zm128 (e := (4, 3, .getfield 24, [3, 2])) rfl) hk_b0.1 (hl.tr hk_b0).1 (by decide) rfl) ?_
    by_cases hc1 : (sI s b0 2) ≤ x3
    · rw [if_pos hc1] at h
      refine Q.map (A.bT (gI_of zm128 (e := (7, 3, .if_icmp .ge 24, [17])) rfl) (decide_eq_true hc1)) ?_
      cases h
      exact Q.ret (A.rv zm128 (show zM128.2.2.2.2.2[17]? = some (31, 1, .return_, []) from rfl) rfl) hl
    · rw [if_neg hc1] at h
      refine Q.map (A.bF (gI_of zm128 (e := (7, 3, .if_icmp .ge 24, [17])) rfl) (fun q => hc1 (of_decide_eq_true q))) ?_
      refine Q.run zm128 2 (i' := 8) (ls' := [some (.ref b0), some (.int x1), some (.int x2), some (.int x3)]) (st' := [.int x3, .ref b0]) rfl ?_
      obtain ⟨r4, hc3, h⟩ := bu_so h
      have hq2 : Q 1 sio tt cc d 129 0 [some (.ref b0), some (.int x3)] [] s (.inl (some (.int r4)), s) := dt129 (by omega) hl hk_b0 hc3
      refine Q.callI (gC_vi zm128 (show zM128.2.2.2.2.2[8]? = some (12, 3, .invokevirtual 95, [0, 129, 1, 3]) from rfl) zm129 hk_b0.1 (hl.tr hk_b0).1 rfl (show aCr 1 b0 [.int x3, .ref b0] 2 = some ([some (.ref b0), some (.int x3)], []) from rfl)) hq2 ?_
      by_cases hc5 : r4 = 0
      · rw [if_pos hc5] at h
        refine Q.map (A.zT (gI_of zm128 (e := (15, 3, .ifCond .eq 10, [15])) rfl) (decide_eq_true hc5)) ?_
        exact dt128_15 hd ih hl hk_b0 h
      · rw [if_neg hc5] at h
        refine Q.map (A.zF (gI_of zm128 (e := (15, 3, .ifCond .eq 10, [15])) rfl) (fun q => hc5 (of_decide_eq_true q))) ?_
        refine Q.run zm128 4 (i' := 14) (ls' := [some (.ref b0), some (.int x1), some (.int x2), some (.int x3)]) (st' := [.int x2, .int x1, .int x3, .ref b0]) rfl ?_
        obtain ⟨s8, hc7, h⟩ := bu_so h
        have hq6 : Q 1 sio tt cc d 130 0 [some (.ref b0), some (.int x3), some (.int x1), some (.int x2), none, none, none, none] [] s (.inl none, s8) := dt130 (by omega) hl hk_b0 hc7
        refine Q.callV (gC_vi zm128 (show zM128.2.2.2.2.2[14]? = some (22, 3, .invokevirtual 99, [0, 130, 3, 3]) from rfl) zm130 hk_b0.1 (hl.tr hk_b0).1 rfl (show aCr 3 b0 [.int x2, .int x1, .int x3, .ref b0] 8 = some ([some (.ref b0), some (.int x3), some (.int x1), some (.int x2), none, none, none, none], []) from rfl)) hq6 ?_
        have hr9 : aK s8 b0 3 := hq6.2.1.k hk_b0
        exact dt128_15 hd ih hq6.1 hr9 h
def dm128 (b0 : Nat) (x1 : Int32) (x2 : Int32) (s : aS) : Option (aS) :=
  dm128_2 5000 b0 x1 x2 0 s
set_option maxRecDepth 100000 in
theorem dt128 {sio : Bool} {tt : Nat} {cc : Nat → Nat → Int32} {d : Nat} (hd : 4 ≤ d) {b0 : Nat} {x1 : Int32} {x2 : Int32} {s : aS} (hl : Ly tt cc s) (hk_b0 : aK s b0 3) {o : aS} (h : dm128  b0 x1 x2 s = some o) : Q 1 sio tt cc d 128 0 [some (.ref b0), some (.int x1), some (.int x2), none] [] s (.inl none, o) := by
  unfold dm128 at h
  obtain ⟨d, rfl⟩ : ∃ e, d = e + 1 := ⟨d - 1, by omega⟩
  refine Q.run zm128 2 (i' := 2) (ls' := [some (.ref b0), some (.int x1), some (.int x2), some (.int 0)]) (st' := []) rfl ?_
  exact dt128_2 hd _ hl hk_b0 h
/-! 125 FormulaTrees.move(IIIII)V -/
set_option maxRecDepth 100000 in
theorem zm125 : zP[125]? = some zM125 := rfl
def dm125_52 (x2 : Int32) (x3 : Int32) (x4 : Int32) (x5 : Int32) (b7 : Nat) (s : aS) : Option (xZ × aS) :=
  bu (dm128 b7 x2 x3 s) fun s3 =>
  if aB x5 8 then
    nx (wI s3 101 (jN x5) x4) fun s6 =>
    some (.inl none, s6)
  else none
set_option maxRecDepth 100000 in
theorem dt125_52 {sio : Bool} {tt : Nat} {cc : Nat → Nat → Int32} {d : Nat} (hd : 9 ≤ d) {x2 : Int32} {x3 : Int32} {x4 : Int32} {x5 : Int32} {b7 : Nat} {x1 : Int32} {b6 : Nat} {s : aS} (hl : Ly tt cc s) (hk_b7 : aK s b7 3) {o : xZ × aS} (h : dm125_52  x2 x3 x4 x5 b7 s = some o) : Q 1 sio tt cc d 125 52 [some (.ref 78), some (.int x1), some (.int x2), some (.int x3), some (.int x4), some (.int x5), some (.ref b6), some (.ref b7)] [] s o := by
  unfold dm125_52 at h
  obtain ⟨d, rfl⟩ : ∃ e, d = e + 1 := ⟨d - 1, by omega⟩
  refine Q.run zm125 3 (i' := 55) (ls' := [some (.ref 78), some (.int x1), some (.int x2), some (.int x3), some (.int x4), some (.int x5), some (.ref b6), some (.ref b7)]) (st' := [.int x3, .int x2, .ref b7]) rfl ?_
  obtain ⟨s3, hc2, h⟩ := bu_so h
  have hq1 : Q 1 sio tt cc d 128 0 [some (.ref b7), some (.int x2), some (.int x3), none] [] s (.inl none, s3) := dt128 (by omega) hl hk_b7 hc2
  refine Q.callV (gC_vi zm125 (show zM125.2.2.2.2.2[55]? = some (115, 3, .invokevirtual 143, [0, 128, 2, 3]) from rfl) zm128 hk_b7.1 (hl.tr hk_b7).1 rfl (show aCr 2 b7 [.int x3, .int x2, .ref b7] 4 = some ([some (.ref b7), some (.int x2), some (.int x3), none], []) from rfl)) hq1 ?_
  have hr4 : aK s3 b7 3 := hq1.2.1.k hk_b7
  refine Q.run zm125 1 (i' := 57) (ls' := [some (.ref 78), some (.int x1), some (.int x2), some (.int x3), some (.int x4), some (.int x5), some (.ref b6), some (.ref b7)]) (st' := [.ref 78]) rfl ?_
  refine Q.map (A.gf (gI_of zm125 (e := (119, 3, .getfield 31, [0, 3])) rfl) (hq1.1.lt (a := 78) (by decide)) (hq1.1.T (a := 78) (p := (0, 7)) 0 rfl rfl) (by decide) (hq1.1.R 3 rfl)) ?_
  refine Q.run zm125 2 (i' := 60) (ls' := [some (.ref 78), some (.int x1), some (.int x2), some (.int x3), some (.int x4), some (.int x5), some (.ref b6), some (.ref b7)]) (st' := [.int x4, .int x5, .ref 101]) rfl ?_
  obtain ⟨hc5, h⟩ := ite_so h
  obtain ⟨s6, hs7, h⟩ := nx_so h
  refine Q.is hs7 rfl (gI_of zm125 (e := (126, 1, .iastore, [])) rfl) (hq1.1.lt (a := 101) (by decide)) (by decide) (hq1.1.T (a := 101) (p := (100, 8)) 23 rfl rfl) hc5 ?_
  have hl8 : Ly tt cc s6 := by rw [hs7]; exact hq1.1.wId (by decide)
  have hr9 : aK s6 b7 3 := by rw [hs7]; exact hr4
  cases h
  exact Q.ret (A.rv zm125 (show zM125.2.2.2.2.2[61]? = some (127, 1, .return_, []) from rfl) rfl) hl8
def dm125_25 (s : aS) : Option (xZ × aS) :=
  some (.inr 0, nw s 80 0)
set_option maxRecDepth 100000 in
theorem dt125_25 {sio : Bool} {tt : Nat} {cc : Nat → Nat → Int32} {d : Nat} (hd : 9 ≤ d) {x1 : Int32} {x2 : Int32} {x3 : Int32} {x4 : Int32} {x5 : Int32} {b6 : Nat} {s : aS} (hl : Ly tt cc s) {o : xZ × aS} (h : dm125_25  s = some o) : Q 1 sio tt cc d 125 25 [some (.ref 78), some (.int x1), some (.int x2), some (.int x3), some (.int x4), some (.int x5), some (.ref b6), none] [] s o := by
  unfold dm125_25 at h
  obtain ⟨d, rfl⟩ : ∃ e, d = e + 1 := ⟨d - 1, by omega⟩
  cases h
  exact Q.t zm125 (show zM125.2.2.2.2.2[25]? = some (56, 3, .new 58, [200]) from rfl) rfl rfl hl.gL (by omega) hl
def dm125_14 (s : aS) : Option (xZ × aS) :=
  some (.inr 2, nw s 82 0)
set_option maxRecDepth 100000 in
theorem dt125_14 {sio : Bool} {tt : Nat} {cc : Nat → Nat → Int32} {d : Nat} (hd : 9 ≤ d) {x1 : Int32} {x2 : Int32} {x3 : Int32} {x4 : Int32} {x5 : Int32} {g6 : Option Value} {s : aS} (hl : Ly tt cc s) {o : xZ × aS} (h : dm125_14  s = some o) : Q 1 sio tt cc d 125 14 [some (.ref 78), some (.int x1), some (.int x2), some (.int x3), some (.int x4), some (.int x5), g6, none] [] s o := by
  unfold dm125_14 at h
  obtain ⟨d, rfl⟩ : ∃ e, d = e + 1 := ⟨d - 1, by omega⟩
  cases h
  exact Q.t zm125 (show zM125.2.2.2.2.2[14]? = some (32, 3, .new 100, [202]) from rfl) rfl rfl hl.gL (by omega) hl
def dm125_46 (x1 : Int32) (x2 : Int32) (x3 : Int32) (x4 : Int32) (x5 : Int32) (b6 : Nat) (b7 : Nat) (s : aS) : Option (xZ × aS) :=
  if x5 = x1 then
    dm125_52 x2 x3 x4 x5 b7 s
  else
    bu (dm127 b7 b6 s) fun s4 =>
    dm125_52 x2 x3 x4 x5 b7 s4
set_option maxRecDepth 100000 in
theorem dt125_46 {sio : Bool} {tt : Nat} {cc : Nat → Nat → Int32} {d : Nat} (hd : 9 ≤ d) {x1 : Int32} {x2 : Int32} {x3 : Int32} {x4 : Int32} {x5 : Int32} {b6 : Nat} {b7 : Nat} {s : aS} (hl : Ly tt cc s) (hk_b6 : aK s b6 3) (hk_b7 : aK s b7 3) {o : xZ × aS} (h : dm125_46  x1 x2 x3 x4 x5 b6 b7 s = some o) : Q 1 sio tt cc d 125 46 [some (.ref 78), some (.int x1), some (.int x2), some (.int x3), some (.int x4), some (.int x5), some (.ref b6), some (.ref b7)] [] s o := by
  unfold dm125_46 at h
  obtain ⟨d, rfl⟩ : ∃ e, d = e + 1 := ⟨d - 1, by omega⟩
  refine Q.run zm125 2 (i' := 48) (ls' := [some (.ref 78), some (.int x1), some (.int x2), some (.int x3), some (.int x4), some (.int x5), some (.ref b6), some (.ref b7)]) (st' := [.int x1, .int x5]) rfl ?_
  by_cases hc1 : x5 = x1
  · rw [if_pos hc1] at h
    refine Q.map (A.bT (gI_of zm125 (e := (101, 3, .if_icmp .eq 10, [52])) rfl) (decide_eq_true hc1)) ?_
    exact dt125_52 hd hl hk_b7 h
  · rw [if_neg hc1] at h
    refine Q.map (A.bF (gI_of zm125 (e := (101, 3, .if_icmp .eq 10, [52])) rfl) (fun q => hc1 (of_decide_eq_true q))) ?_
    refine Q.run zm125 2 (i' := 51) (ls' := [some (.ref 78), some (.int x1), some (.int x2), some (.int x3), some (.int x4), some (.int x5), some (.ref b6), some (.ref b7)]) (st' := [.ref b6, .ref b7]) rfl ?_
    obtain ⟨s4, hc3, h⟩ := bu_so h
    have hq2 : Q 1 sio tt cc d 127 0 [some (.ref b7), some (.ref b6)] [] s (.inl none, s4) := dt127 (by omega) hl hk_b7 hk_b6 hc3
    refine Q.callV (gC_vi zm125 (show zM125.2.2.2.2.2[51]? = some (108, 3, .invokevirtual 139, [0, 127, 1, 3]) from rfl) zm127 hk_b7.1 (hl.tr hk_b7).1 rfl (show aCr 1 b7 [.ref b6, .ref b7] 2 = some ([some (.ref b7), some (.ref b6)], []) from rfl)) hq2 ?_
    have hr5 : aK s4 b6 3 := hq2.2.1.k hk_b6
    have hr6 : aK s4 b7 3 := hq2.2.1.k hk_b7
    exact dt125_52 hd hq2.1 hr6 h
def dm125 (x1 : Int32) (x2 : Int32) (x3 : Int32) (x4 : Int32) (x5 : Int32) (s : aS) : Option (xZ × aS) :=
  bu (dm54 x1 s) fun r3 =>
  vN r3 (
    bu (dm55 x5) fun r9 =>
    if r9 = 0 then
      dm125_14 s
    else
      dm125_14 s
  ) fun b5 =>
    if aK s b5 3 then
      bu (dm55 x5) fun r13 =>
      if r13 = 0 then
        dm125_14 s
      else
        bu (dm40 x4 s) fun r17 =>
        if r17 = 0 then
          dm125_14 s
        else
          bu (dm126 x2) fun r21 =>
          if r21 = 0 then
            dm125_25 s
          else
            bu (dm126 x3) fun r25 =>
            if r25 = 0 then
              dm125_25 s
            else
              if aB x5 8 then
                vN (sR s 100 (jN x5)) (
                  nx (nTree s) fun s31 => nx (sL s) fun b34 =>
                  if aB x5 8 then
                    nx (wR s31 100 (jN x5) (.ref b34)) fun s40 =>
                    dm125_46 x1 x2 x3 x4 x5 b5 b34 s40
                  else none
                ) fun b29 =>
                  if aK s b29 3 then
                    dm125_46 x1 x2 x3 x4 x5 b5 b29 s
                  else none
              else none
    else none
set_option maxRecDepth 100000 in
theorem dt125 {sio : Bool} {tt : Nat} {cc : Nat → Nat → Int32} {d : Nat} (hd : 9 ≤ d) {x1 : Int32} {x2 : Int32} {x3 : Int32} {x4 : Int32} {x5 : Int32} {s : aS} (hl : Ly tt cc s) {o : xZ × aS} (h : dm125  x1 x2 x3 x4 x5 s = some o) : Q 1 sio tt cc d 125 0 [some (.ref 78), some (.int x1), some (.int x2), some (.int x3), some (.int x4), some (.int x5), none, none] [] s o := by
  unfold dm125 at h
  obtain ⟨d, rfl⟩ : ∃ e, d = e + 1 := ⟨d - 1, by omega⟩
  refine Q.run zm125 2 (i' := 2) (ls' := [some (.ref 78), some (.int x1), some (.int x2), some (.int x3), some (.int x4), some (.int x5), none, none]) (st' := [.int x1, .ref 78]) rfl ?_
  obtain ⟨r3, hc2, h⟩ := bu_so h
  have hq1 : Q 1 sio tt cc d 54 0 [some (.ref 78), some (.int x1)] [] s (.inl (some r3), s) := dt54 (by omega) hl  hc2
  rcases vN_so h with ⟨hv4, h9⟩ | ⟨b5, hv4, h9⟩
  · clear h
    subst hv4
    have h := h9
    refine Q.callR (gC_vi zm125 (show zM125.2.2.2.2.2[2]? = some (2, 3, .invokevirtual 114, [0, 54, 1, 0]) from rfl) zm54 (hl.lt (a := 78) (by decide)) (hl.T (a := 78) (p := (0, 7)) 0 rfl rfl) rfl (show aCr 1 78 [.int x1, .ref 78] 2 = some ([some (.ref 78), some (.int x1)], []) from rfl)) hq1 ?_
    refine Q.run zm125 2 (i' := 5) (ls' := [some (.ref 78), some (.int x1), some (.int x2), some (.int x3), some (.int x4), some (.int x5), some (.null), none]) (st' := [.int x5]) rfl ?_
    obtain ⟨r9, hc8, h⟩ := bu_so h
    have hq7 : Q 1 sio tt cc d 55 0 [some (.int x5)] [] s (.inl (some (.int r9)), s) := dt55 (by omega) hl  hc8
    refine Q.callI (gC_st zm125 (show zM125.2.2.2.2.2[5]? = some (9, 3, .invokestatic 125, [0, 55, 1]) from rfl) zm55 (show aC 1 [.int x5] 1 = some ([some (.int x5)], []) from rfl)) hq7 ?_
    by_cases hc10 : r9 = 0
    · rw [if_pos hc10] at h
      refine Q.map (A.zT (gI_of zm125 (e := (12, 3, .ifCond .eq 20, [14])) rfl) (decide_eq_true hc10)) ?_
      exact dt125_14 hd hl  h
    · rw [if_neg hc10] at h
      refine Q.map (A.zF (gI_of zm125 (e := (12, 3, .ifCond .eq 20, [14])) rfl) (fun q => hc10 (of_decide_eq_true q))) ?_
      refine Q.run zm125 2 (i' := 14) (ls' := [some (.ref 78), some (.int x1), some (.int x2), some (.int x3), some (.int x4), some (.int x5), some (.null), none]) (st' := []) rfl ?_
      exact dt125_14 hd hl  h
  · clear h
    subst hv4
    have h := h9
    obtain ⟨hr6, h⟩ := ite_so h
    refine Q.callR (gC_vi zm125 (show zM125.2.2.2.2.2[2]? = some (2, 3, .invokevirtual 114, [0, 54, 1, 0]) from rfl) zm54 (hl.lt (a := 78) (by decide)) (hl.T (a := 78) (p := (0, 7)) 0 rfl rfl) rfl (show aCr 1 78 [.int x1, .ref 78] 2 = some ([some (.ref 78), some (.int x1)], []) from rfl)) hq1 ?_
    refine Q.run zm125 2 (i' := 5) (ls' := [some (.ref 78), some (.int x1), some (.int x2), some (.int x3), some (.int x4), some (.int x5), some (.ref b5), none]) (st' := [.int x5]) rfl ?_
    obtain ⟨r13, hc12, h⟩ := bu_so h
    have hq11 : Q 1 sio tt cc d 55 0 [some (.int x5)] [] s (.inl (some (.int r13)), s) := dt55 (by omega) hl  hc12
    refine Q.callI (gC_st zm125 (show zM125.2.2.2.2.2[5]? = some (9, 3, .invokestatic 125, [0, 55, 1]) from rfl) zm55 (show aC 1 [.int x5] 1 = some ([some (.int x5)], []) from rfl)) hq11 ?_
    by_cases hc14 : r13 = 0
    · rw [if_pos hc14] at h
      refine Q.map (A.zT (gI_of zm125 (e := (12, 3, .ifCond .eq 20, [14])) rfl) (decide_eq_true hc14)) ?_
      exact dt125_14 hd hl  h
    · rw [if_neg hc14] at h
      refine Q.map (A.zF (gI_of zm125 (e := (12, 3, .ifCond .eq 20, [14])) rfl) (fun q => hc14 (of_decide_eq_true q))) ?_
      refine Q.run zm125 3 (i' := 10) (ls' := [some (.ref 78), some (.int x1), some (.int x2), some (.int x3), some (.int x4), some (.int x5), some (.ref b5), none]) (st' := [.ref 78]) rfl ?_
      refine Q.map (A.gf (gI_of zm125 (e := (21, 3, .getfield 21, [0, 1])) rfl) (hl.lt (a := 78) (by decide)) (hl.T (a := 78) (p := (0, 7)) 0 rfl rfl) (by decide) (hl.R 1 rfl)) ?_
      refine Q.run zm125 1 (i' := 12) (ls' := [some (.ref 78), some (.int x1), some (.int x2), some (.int x3), some (.int x4), some (.int x5), some (.ref b5), none]) (st' := [.int x4, .ref 81]) rfl ?_
      obtain ⟨r17, hc16, h⟩ := bu_so h
      have hq15 : Q 1 sio tt cc d 40 0 [some (.ref 81), some (.int x4)] [] s (.inl (some (.int r17)), s) := dt40 (by omega) hl  hc16
      refine Q.callI (gC_vi zm125 (show zM125.2.2.2.2.2[12]? = some (26, 3, .invokevirtual 96, [0, 40, 1, 2]) from rfl) zm40 (hl.lt (a := 81) (by decide)) (hl.T (a := 81) (p := (2, 3)) 3 rfl rfl) rfl (show aCr 1 81 [.int x4, .ref 81] 2 = some ([some (.ref 81), some (.int x4)], []) from rfl)) hq15 ?_
      by_cases hc18 : r17 = 0
      · rw [if_pos hc18] at h
        refine Q.map (A.zF (gI_of zm125 (e := (29, 3, .ifCond .ne 13, [19])) rfl) (fun q => of_decide_eq_true q hc18)) ?_
        exact dt125_14 hd hl  h
      · rw [if_neg hc18] at h
        refine Q.map (A.zT (gI_of zm125 (e := (29, 3, .ifCond .ne 13, [19])) rfl) (decide_eq_true hc18)) ?_
        refine Q.run zm125 1 (i' := 20) (ls' := [some (.ref 78), some (.int x1), some (.int x2), some (.int x3), some (.int x4), some (.int x5), some (.ref b5), none]) (st' := [.int x2]) rfl ?_
        obtain ⟨r21, hc20, h⟩ := bu_so h
        have hq19 : Q 1 sio tt cc d 126 0 [some (.int x2)] [] s (.inl (some (.int r21)), s) := dt126 (by omega) hl  hc20
        refine Q.callI (gC_st zm125 (show zM125.2.2.2.2.2[20]? = some (43, 3, .invokestatic 134, [0, 126, 1]) from rfl) zm126 (show aC 1 [.int x2] 1 = some ([some (.int x2)], []) from rfl)) hq19 ?_
        by_cases hc22 : r21 = 0
        · rw [if_pos hc22] at h
          refine Q.map (A.zT (gI_of zm125 (e := (46, 3, .ifCond .eq 10, [25])) rfl) (decide_eq_true hc22)) ?_
          exact dt125_25 hd hl  h
        · rw [if_neg hc22] at h
          refine Q.map (A.zF (gI_of zm125 (e := (46, 3, .ifCond .eq 10, [25])) rfl) (fun q => hc22 (of_decide_eq_true q))) ?_
          refine Q.run zm125 1 (i' := 23) (ls' := [some (.ref 78), some (.int x1), some (.int x2), some (.int x3), some (.int x4), some (.int x5), some (.ref b5), none]) (st' := [.int x3]) rfl ?_
          obtain ⟨r25, hc24, h⟩ := bu_so h
          have hq23 : Q 1 sio tt cc d 126 0 [some (.int x3)] [] s (.inl (some (.int r25)), s) := dt126 (by omega) hl  hc24
          refine Q.callI (gC_st zm125 (show zM125.2.2.2.2.2[23]? = some (50, 3, .invokestatic 134, [0, 126, 1]) from rfl) zm126 (show aC 1 [.int x3] 1 = some ([some (.int x3)], []) from rfl)) hq23 ?_
          by_cases hc26 : r25 = 0
          · rw [if_pos hc26] at h
            refine Q.map (A.zF (gI_of zm125 (e := (53, 3, .ifCond .ne 13, [30])) rfl) (fun q => of_decide_eq_true q hc26)) ?_
            exact dt125_25 hd hl  h
          · rw [if_neg hc26] at h
            refine Q.map (A.zT (gI_of zm125 (e := (53, 3, .ifCond .ne 13, [30])) rfl) (decide_eq_true hc26)) ?_
            refine Q.run zm125 1 (i' := 31) (ls' := [some (.ref 78), some (.int x1), some (.int x2), some (.int x3), some (.int x4), some (.int x5), some (.ref b5), none]) (st' := [.ref 78]) rfl ?_
            refine Q.map (A.gf (gI_of zm125 (e := (67, 3, .getfield 27, [0, 2])) rfl) (hl.lt (a := 78) (by decide)) (hl.T (a := 78) (p := (0, 7)) 0 rfl rfl) (by decide) (hl.R 2 rfl)) ?_
            refine Q.run zm125 1 (i' := 33) (ls' := [some (.ref 78), some (.int x1), some (.int x2), some (.int x3), some (.int x4), some (.int x5), some (.ref b5), none]) (st' := [.int x5, .ref 100]) rfl ?_
            obtain ⟨hc27, h⟩ := ite_so h
            rcases vN_so h with ⟨hv28, h⟩ | ⟨b29, hv28, h⟩
            · refine Q.map (A.aa (gI_of zm125 (e := (72, 1, .aaload, [])) rfl) (hl.lt (a := 100) (by decide)) (hl.T (a := 100) (p := (113, 8)) 22 rfl rfl) (by decide) hc27 hv28) ?_
              refine Q.run zm125 3 (i' := 37) (ls' := [some (.ref 78), some (.int x1), some (.int x2), some (.int x3), some (.int x4), some (.int x5), some (.ref b5), some (.null)]) (st' := []) rfl ?_
              obtain ⟨s31, hs32, h⟩ := nx_so h
              obtain ⟨b34, hb35, h⟩ := nx_so h
              have hq36 := lay_tree hl.gL hl
              refine Q.tree hs32 hl.gL hb35 zm125 (gI_of zm125 (e := (80, 3, .new 25, [3, 2, 2, 0])) rfl) (gI_of zm125 (e := (83, 1, .dup, [])) rfl) (show zM125.2.2.2.2.2[39]? = some (84, 3, .invokespecial 35, [0, 19, 0]) from rfl) (eq_true (show 1 ≤ 8 by decide)) (by omega) hl ?_
              have hl33 : Ly tt cc s31 := by rw [hs32]; exact hq36.1
              have hr37 : aK s31 b5 3 := by rw [hs32]; exact hq36.2.1.k hr6
              have hr38 : aK s31 b34 3 := by rw [hs32, hb35]; exact hq36.2.2
              refine Q.run zm125 2 (i' := 42) (ls' := [some (.ref 78), some (.int x1), some (.int x2), some (.int x3), some (.int x4), some (.int x5), some (.ref b5), some (.ref b34)]) (st' := [.ref 78]) rfl ?_
              refine Q.map (A.gf (gI_of zm125 (e := (90, 3, .getfield 27, [0, 2])) rfl) (hl33.lt (a := 78) (by decide)) (hl33.T (a := 78) (p := (0, 7)) 0 rfl rfl) (by decide) (hl33.R 2 rfl)) ?_
              refine Q.run zm125 2 (i' := 45) (ls' := [some (.ref 78), some (.int x1), some (.int x2), some (.int x3), some (.int x4), some (.int x5), some (.ref b5), some (.ref b34)]) (st' := [.ref b34, .int x5, .ref 100]) rfl ?_
              obtain ⟨hc39, h⟩ := ite_so h
              obtain ⟨s40, hs41, h⟩ := nx_so h
              refine Q.as hs41 rfl (gI_of zm125 (e := (97, 1, .aastore, [3])) rfl) (hl33.lt (a := 100) (by decide)) (by decide) (by decide) (hl33.T (a := 100) (p := (113, 8)) 22 rfl rfl) hr38.1 (hl33.tr hr38).1 hc39 ?_
              have hl42 : Ly tt cc s40 := by rw [hs41]; exact hl33.wRd (hl33.T (a := 100) (p := (113, 8)) 22 rfl rfl) (by decide) (lay_noR _)
              have hr43 : aK s40 b5 3 := by rw [hs41]; exact hr37
              have hr44 : aK s40 b34 3 := by rw [hs41]; exact hr38
              exact dt125_46 hd hl42 hr43 hr44 h
            · obtain ⟨hr30, h⟩ := ite_so h
              refine Q.map (A.aa (gI_of zm125 (e := (72, 1, .aaload, [])) rfl) (hl.lt (a := 100) (by decide)) (hl.T (a := 100) (p := (113, 8)) 22 rfl rfl) (by decide) hc27 hv28) ?_
              refine Q.run zm125 3 (i' := 46) (ls' := [some (.ref 78), some (.int x1), some (.int x2), some (.int x3), some (.int x4), some (.int x5), some (.ref b5), some (.ref b29)]) (st' := []) rfl ?_
              exact dt125_46 hd hl hr6 hr30 h
/-! 6 FormulaTreesLaw.move(LFormulaTrees;IIIII)I -/
set_option maxRecDepth 100000 in
theorem zm6 : zP[6]? = some zM6 := rfl
def dm6 (x1 : Int32) (x2 : Int32) (x3 : Int32) (x4 : Int32) (x5 : Int32) (s : aS) : Option (Int32 × aS) :=
  bv (dm125 x1 x2 x3 x4 x5 s) fun z4 s3 =>
  zN z4 (fun v5 =>
    vV v5 <|
    some (0, s3)
  ) fun e6 =>
    if e6 = 2 then
      some (1, s3)
    else
      if e6 = 0 then
        some (2, s3)
      else
        none
set_option maxRecDepth 100000 in
theorem dt6 {sio : Bool} {tt : Nat} {cc : Nat → Nat → Int32} {d : Nat} (hd : 10 ≤ d) {x1 : Int32} {x2 : Int32} {x3 : Int32} {x4 : Int32} {x5 : Int32} {s : aS} (hl : Ly tt cc s) {o : Int32 × aS} (h : dm6  x1 x2 x3 x4 x5 s = some o) : Q 1 sio tt cc d 6 0 [some (.ref 78), some (.int x1), some (.int x2), some (.int x3), some (.int x4), some (.int x5), none] [] s (.inl (some (.int o.1)), o.2) := by
  unfold dm6 at h
  obtain ⟨d, rfl⟩ : ∃ e, d = e + 1 := ⟨d - 1, by omega⟩
  refine Q.run zm6 6 (i' := 6) (ls' := [some (.ref 78), some (.int x1), some (.int x2), some (.int x3), some (.int x4), some (.int x5), none]) (st' := [.int x5, .int x4, .int x3, .int x2, .int x1, .ref 78]) rfl ?_
  obtain ⟨z4, s3, hc2, h⟩ := bv_so h
  have hq1 : Q 1 sio tt cc d 125 0 [some (.ref 78), some (.int x1), some (.int x2), some (.int x3), some (.int x4), some (.int x5), none, none] [] s (z4, s3) := dt125 (by omega) hl  hc2
  rcases zN_so h with ⟨v5, hz8, h8⟩ | ⟨e6, hz8, h8⟩
  · clear h
    subst hz8
    have h := h8
    obtain ⟨hv7, h9⟩ := vV_so h
    clear h
    subst hv7
    have h := h9
    refine Q.callV (gC_vi zm6 (show zM6.2.2.2.2.2[6]? = some (8, 3, .invokevirtual 34, [0, 125, 5, 0]) from rfl) zm125 (hl.lt (a := 78) (by decide)) (hl.T (a := 78) (p := (0, 7)) 0 rfl rfl) rfl (show aCr 5 78 [.int x5, .int x4, .int x3, .int x2, .int x1, .ref 78] 8 = some ([some (.ref 78), some (.int x1), some (.int x2), some (.int x3), some (.int x4), some (.int x5), none, none], []) from rfl)) hq1 ?_
    refine Q.run zm6 2 (i' := 15) (ls' := [some (.ref 78), some (.int x1), some (.int x2), some (.int x3), some (.int x4), some (.int x5), none]) (st' := [.int 0]) rfl ?_
    cases h
    exact Q.ret (A.ri zm6 (show zM6.2.2.2.2.2[15]? = some (23, 1, .ireturn, []) from rfl) rfl rfl) hq1.1
  · clear h
    subst hz8
    have h := h8
    by_cases hc9 : e6 = 2
    · rw [if_pos hc9] at h
      subst hc9
      refine Q.hc (gC_vi zm6 (show zM6.2.2.2.2.2[6]? = some (8, 3, .invokevirtual 34, [0, 125, 5, 0]) from rfl) zm125 (hl.lt (a := 78) (by decide)) (hl.T (a := 78) (p := (0, 7)) 0 rfl rfl) rfl (show aCr 5 78 [.int x5, .int x4, .int x3, .int x2, .int x1, .ref 78] 8 = some ([some (.ref 78), some (.int x1), some (.int x2), some (.int x3), some (.int x4), some (.int x5), none, none], []) from rfl)) hq1 (t := 8) rfl ?_
      refine Q.run zm6 2 (i' := 10) (ls' := [some (.ref 78), some (.int x1), some (.int x2), some (.int x3), some (.int x4), some (.int x5), some (.ref (sL s3 - 1))]) (st' := [.int 1]) rfl ?_
      cases h
      exact Q.ret (A.ri zm6 (show zM6.2.2.2.2.2[10]? = some (17, 1, .ireturn, []) from rfl) rfl rfl) hq1.1
    · rw [if_neg hc9] at h
      by_cases hc10 : e6 = 0
      · rw [if_pos hc10] at h
        subst hc10
        refine Q.hc (gC_vi zm6 (show zM6.2.2.2.2.2[6]? = some (8, 3, .invokevirtual 34, [0, 125, 5, 0]) from rfl) zm125 (hl.lt (a := 78) (by decide)) (hl.T (a := 78) (p := (0, 7)) 0 rfl rfl) rfl (show aCr 5 78 [.int x5, .int x4, .int x3, .int x2, .int x1, .ref 78] 8 = some ([some (.ref 78), some (.int x1), some (.int x2), some (.int x3), some (.int x4), some (.int x5), none, none], []) from rfl)) hq1 (t := 11) rfl ?_
        refine Q.run zm6 2 (i' := 13) (ls' := [some (.ref 78), some (.int x1), some (.int x2), some (.int x3), some (.int x4), some (.int x5), some (.ref (sL s3 - 1))]) (st' := [.int 2]) rfl ?_
        cases h
        exact Q.ret (A.ri zm6 (show zM6.2.2.2.2.2[13]? = some (21, 1, .ireturn, []) from rfl) rfl rfl) hq1.1
      · rw [if_neg hc10] at h
        cases h
/-! 225 FormulaTreesModel.noFormula(I)Z -/
set_option maxRecDepth 100000 in
theorem zm225 : zP[225]? = some zM225 := rfl
def dm225_10 (s : aS) : Option (Int32) :=
  some 1
set_option maxRecDepth 100000 in
theorem dt225_10 {sio : Bool} {tt : Nat} {cc : Nat → Nat → Int32} {d : Nat} (hd : 0 ≤ d) {x1 : Int32} {s : aS} (hl : Ly tt cc s) {o : Int32} (h : dm225_10  s = some o) : Q 2 sio tt cc d 225 10 [some (.ref 121), some (.int x1)] [] s (.inl (some (.int o)), s) := by
  unfold dm225_10 at h
  refine Q.run zm225 2 (i' := 13) (ls' := [some (.ref 121), some (.int x1)]) (st' := [.int 1]) rfl ?_
  cases h
  exact Q.ret (A.ri zm225 (show zM225.2.2.2.2.2[13]? = some (24, 1, .ireturn, []) from rfl) rfl rfl) hl
def dm225 (x1 : Int32) (s : aS) : Option (Int32) :=
  if x1 < 0 then
    dm225_10 s
  else
    if 7 < x1 then
      dm225_10 s
    else
      if aB x1 8 then
        if (sI s 125 (jN x1)) = 0 then
          dm225_10 s
        else
          some 0
      else none
set_option maxRecDepth 100000 in
theorem dt225 {sio : Bool} {tt : Nat} {cc : Nat → Nat → Int32} {d : Nat} (hd : 0 ≤ d) {x1 : Int32} {s : aS} (hl : Ly tt cc s) {o : Int32} (h : dm225  x1 s = some o) : Q 2 sio tt cc d 225 0 [some (.ref 121), some (.int x1)] [] s (.inl (some (.int o)), s) := by
  unfold dm225 at h
  refine Q.run zm225 1 (i' := 1) (ls' := [some (.ref 121), some (.int x1)]) (st' := [.int x1]) rfl ?_
  by_cases hc1 : x1 < 0
  · rw [if_pos hc1] at h
    refine Q.map (A.zT (gI_of zm225 (e := (1, 3, .ifCond .lt 18, [10])) rfl) (decide_eq_true hc1)) ?_
    exact dt225_10 hd hl  h
  · rw [if_neg hc1] at h
    refine Q.map (A.zF (gI_of zm225 (e := (1, 3, .ifCond .lt 18, [10])) rfl) (fun q => hc1 (of_decide_eq_true q))) ?_
    refine Q.run zm225 2 (i' := 4) (ls' := [some (.ref 121), some (.int x1)]) (st' := [.int 7, .int x1]) rfl ?_
    by_cases hc2 : 7 < x1
    · rw [if_pos hc2] at h
      refine Q.map (A.bT (gI_of zm225 (e := (7, 3, .if_icmp .gt 12, [10])) rfl) (decide_eq_true hc2)) ?_
      exact dt225_10 hd hl  h
    · rw [if_neg hc2] at h
      refine Q.map (A.bF (gI_of zm225 (e := (7, 3, .if_icmp .gt 12, [10])) rfl) (fun q => hc2 (of_decide_eq_true q))) ?_
      refine Q.run zm225 1 (i' := 6) (ls' := [some (.ref 121), some (.int x1)]) (st' := [.ref 121]) rfl ?_
      refine Q.map (A.gf (gI_of zm225 (e := (11, 3, .getfield 19, [9, 6])) rfl) (hl.lt (a := 121) (by decide)) (hl.T (a := 121) (p := (9, 45)) 43 rfl rfl) (by decide) (hl.R 26 rfl)) ?_
      refine Q.run zm225 1 (i' := 8) (ls' := [some (.ref 121), some (.int x1)]) (st' := [.int x1, .ref 125]) rfl ?_
      obtain ⟨hc3, h⟩ := ite_so h
      refine Q.map (A.ba (gI_of zm225 (e := (15, 1, .baload, [])) rfl) (hl.lt (a := 125) (by decide)) (hl.T (a := 125) (p := (103, 8)) 47 rfl rfl) (by decide) hc3) ?_
      by_cases hc4 : (sI s 125 (jN x1)) = 0
      · rw [if_pos hc4] at h
        refine Q.map (A.zF (gI_of zm225 (e := (16, 3, .ifCond .ne 7, [12])) rfl) (fun q => of_decide_eq_true q hc4)) ?_
        exact dt225_10 hd hl  h
      · rw [if_neg hc4] at h
        refine Q.map (A.zT (gI_of zm225 (e := (16, 3, .ifCond .ne 7, [12])) rfl) (decide_eq_true hc4)) ?_
        refine Q.run zm225 1 (i' := 13) (ls' := [some (.ref 121), some (.int x1)]) (st' := [.int 0]) rfl ?_
        cases h
        exact Q.ret (A.ri zm225 (show zM225.2.2.2.2.2[13]? = some (24, 1, .ireturn, []) from rfl) rfl rfl) hl
/-! 227 FormulaTreesModel.beyond(II)Z -/
set_option maxRecDepth 100000 in
theorem zm227 : zP[227]? = some zM227 := rfl
def dm227_6 : Option (Int32) :=
  some 1
set_option maxRecDepth 100000 in
theorem dt227_6 {sio : Bool} {tt : Nat} {cc : Nat → Nat → Int32} {d : Nat} (hd : 0 ≤ d) {x0 : Int32} {x1 : Int32} {s : aS} (hl : Ly tt cc s) {o : Int32} (h : dm227_6   = some o) : Q 2 sio tt cc d 227 6 [some (.int x0), some (.int x1)] [] s (.inl (some (.int o)), s) := by
  unfold dm227_6 at h
  refine Q.run zm227 2 (i' := 9) (ls' := [some (.int x0), some (.int x1)]) (st' := [.int 1]) rfl ?_
  cases h
  exact Q.ret (A.ri zm227 (show zM227.2.2.2.2.2[9]? = some (15, 1, .ireturn, []) from rfl) rfl rfl) hl
def dm227 (x0 : Int32) (x1 : Int32) : Option (Int32) :=
  if x0 < 1 then
    dm227_6 
  else
    if x0 ≤ x1 then
      some 0
    else
      dm227_6 
set_option maxRecDepth 100000 in
theorem dt227 {sio : Bool} {tt : Nat} {cc : Nat → Nat → Int32} {d : Nat} (hd : 0 ≤ d) {x0 : Int32} {x1 : Int32} {s : aS} (hl : Ly tt cc s) {o : Int32} (h : dm227  x0 x1 = some o) : Q 2 sio tt cc d 227 0 [some (.int x0), some (.int x1)] [] s (.inl (some (.int o)), s) := by
  unfold dm227 at h
  refine Q.run zm227 2 (i' := 2) (ls' := [some (.int x0), some (.int x1)]) (st' := [.int 1, .int x0]) rfl ?_
  by_cases hc1 : x0 < 1
  · rw [if_pos hc1] at h
    refine Q.map (A.bT (gI_of zm227 (e := (2, 3, .if_icmp .lt 8, [6])) rfl) (decide_eq_true hc1)) ?_
    exact dt227_6 hd hl  h
  · rw [if_neg hc1] at h
    refine Q.map (A.bF (gI_of zm227 (e := (2, 3, .if_icmp .lt 8, [6])) rfl) (fun q => hc1 (of_decide_eq_true q))) ?_
    refine Q.run zm227 2 (i' := 5) (ls' := [some (.int x0), some (.int x1)]) (st' := [.int x1, .int x0]) rfl ?_
    by_cases hc2 : x0 ≤ x1
    · rw [if_pos hc2] at h
      refine Q.map (A.bT (gI_of zm227 (e := (7, 3, .if_icmp .le 7, [8])) rfl) (decide_eq_true hc2)) ?_
      refine Q.run zm227 1 (i' := 9) (ls' := [some (.int x0), some (.int x1)]) (st' := [.int 0]) rfl ?_
      cases h
      exact Q.ret (A.ri zm227 (show zM227.2.2.2.2.2[9]? = some (15, 1, .ireturn, []) from rfl) rfl rfl) hl
    · rw [if_neg hc2] at h
      refine Q.map (A.bF (gI_of zm227 (e := (7, 3, .if_icmp .le 7, [8])) rfl) (fun q => hc2 (of_decide_eq_true q))) ?_
      exact dt227_6 hd hl  h
/-! 226 FormulaTreesModel.moveNode(III)V -/
set_option maxRecDepth 100000 in
theorem zm226 : zP[226]? = some zM226 := rfl
def dm226_140 (x1 : Int32) (s : aS) : Option (aS) :=
  bu (dm183 x1 s) fun s3 =>
  some s3
set_option maxRecDepth 100000 in
theorem dt226_140 {sio : Bool} {tt : Nat} {cc : Nat → Nat → Int32} {d : Nat} (hd : 1 ≤ d) {x1 : Int32} {x2 : Int32} {x3 : Int32} {x4 : Int32} {s : aS} (hl : Ly tt cc s) {o : aS} (h : dm226_140  x1 s = some o) : Q 2 sio tt cc d 226 140 [some (.ref 121), some (.int x1), some (.int x2), some (.int x3), some (.int x4)] [] s (.inl none, o) := by
  unfold dm226_140 at h
  obtain ⟨d, rfl⟩ : ∃ e, d = e + 1 := ⟨d - 1, by omega⟩
  refine Q.run zm226 2 (i' := 142) (ls' := [some (.ref 121), some (.int x1), some (.int x2), some (.int x3), some (.int x4)]) (st' := [.int x1, .ref 121]) rfl ?_
  obtain ⟨s3, hc2, h⟩ := bu_so h
  have hq1 : Q 2 sio tt cc d 183 0 [some (.ref 121), some (.int x1)] [] s (.inl none, s3) := dt183 (by omega) hl  hc2
  refine Q.callV (gC_vi zm226 (show zM226.2.2.2.2.2[142]? = some (242, 3, .invokevirtual 131, [0, 183, 1, 9]) from rfl) zm183 (hl.lt (a := 121) (by decide)) (hl.T (a := 121) (p := (9, 45)) 43 rfl rfl) rfl (show aCr 1 121 [.int x1, .ref 121] 2 = some ([some (.ref 121), some (.int x1)], []) from rfl)) hq1 ?_
  refine Q.run zm226 1 (i' := 149) (ls' := [some (.ref 121), some (.int x1), some (.int x2), some (.int x3), some (.int x4)]) (st' := []) rfl ?_
  cases h
  exact Q.ret (A.rv zm226 (show zM226.2.2.2.2.2[149]? = some (258, 1, .return_, []) from rfl) rfl) hq1.1
def dm226_111 (x1 : Int32) (x4 : Int32) (y1 : Int32) (y2 : Int32) (s : aS) : Option (aS) :=
  if aB y1 1152 then
    nx (wI s 134 (jN y1) y2) fun s2 =>
    if aB x1 1152 then
      bu (dm227 (sI s2 131 (jN x1)) 1048576) fun r8 =>
      if r8 = 0 then
        if aB x1 1152 then
          bu (dm227 (sI s2 133 (jN x1)) 1048576) fun r13 =>
          if r13 = 0 then
            if aB x1 1152 then
              bu (dm227 (sI s2 132 (jN x1)) 16384) fun r18 =>
              if r18 = 0 then
                if aB x1 1152 then
                  bu (dm227 (sI s2 134 (jN x1)) 16384) fun r23 =>
                  if r23 = 0 then
                    if x4 = 0 then
                      bu (dm219 x1 s2) fun s28 =>
                      some s28
                    else
                      some s2
                  else
                    dm226_140 x1 s2
                else none
              else
                dm226_140 x1 s2
            else none
          else
            dm226_140 x1 s2
        else none
      else
        dm226_140 x1 s2
    else none
  else none
set_option maxRecDepth 100000 in
theorem dt226_111 {sio : Bool} {tt : Nat} {cc : Nat → Nat → Int32} {d : Nat} (hd : 1 ≤ d) {x1 : Int32} {x4 : Int32} {y1 : Int32} {y2 : Int32} {x2 : Int32} {x3 : Int32} {s : aS} (hl : Ly tt cc s) {o : aS} (h : dm226_111  x1 x4 y1 y2 s = some o) : Q 2 sio tt cc d 226 111 [some (.ref 121), some (.int x1), some (.int x2), some (.int x3), some (.int x4)] [.int y2, .int y1, .ref 134] s (.inl none, o) := by
  unfold dm226_111 at h
  obtain ⟨d, rfl⟩ : ∃ e, d = e + 1 := ⟨d - 1, by omega⟩
  obtain ⟨hc1, h⟩ := ite_so h
  obtain ⟨s2, hs3, h⟩ := nx_so h
  refine Q.is hs3 rfl (gI_of zm226 (e := (181, 1, .iastore, [])) rfl) (hl.lt (a := 134) (by decide)) (by decide) (hl.T (a := 134) (p := (100, 1152)) 56 rfl rfl) hc1 ?_
  have hl4 : Ly tt cc s2 := by rw [hs3]; exact hl.wId (by decide)
  refine Q.run zm226 1 (i' := 113) (ls' := [some (.ref 121), some (.int x1), some (.int x2), some (.int x3), some (.int x4)]) (st' := [.ref 121]) rfl ?_
  refine Q.map (A.gf (gI_of zm226 (e := (183, 3, .getfield 38, [9, 12])) rfl) (hl4.lt (a := 121) (by decide)) (hl4.T (a := 121) (p := (9, 45)) 43 rfl rfl) (by decide) (hl4.R 32 rfl)) ?_
  refine Q.run zm226 1 (i' := 115) (ls' := [some (.ref 121), some (.int x1), some (.int x2), some (.int x3), some (.int x4)]) (st' := [.int x1, .ref 131]) rfl ?_
  obtain ⟨hc5, h⟩ := ite_so h
  refine Q.map (A.ia (gI_of zm226 (e := (187, 1, .iaload, [])) rfl) (hl4.lt (a := 131) (by decide)) (hl4.T (a := 131) (p := (100, 1152)) 53 rfl rfl) hc5) ?_
  refine Q.run zm226 1 (i' := 117) (ls' := [some (.ref 121), some (.int x1), some (.int x2), some (.int x3), some (.int x4)]) (st' := [.int 1048576, .int (sI s2 131 (jN x1))]) rfl ?_
  obtain ⟨r8, hc7, h⟩ := bu_so h
  have hq6 : Q 2 sio tt cc d 227 0 [some (.int (sI s2 131 (jN x1))), some (.int 1048576)] [] s2 (.inl (some (.int r8)), s2) := dt227 (by omega) hl4  hc7
  refine Q.callI (gC_st zm226 (show zM226.2.2.2.2.2[117]? = some (190, 3, .invokestatic 317, [0, 227, 2]) from rfl) zm227 (show aC 2 [.int 1048576, .int (sI s2 131 (jN x1))] 2 = some ([some (.int (sI s2 131 (jN x1))), some (.int 1048576)], []) from rfl)) hq6 ?_
  by_cases hc9 : r8 = 0
  · rw [if_pos hc9] at h
    refine Q.map (A.zF (gI_of zm226 (e := (193, 3, .ifCond .ne 47, [140])) rfl) (fun q => of_decide_eq_true q hc9)) ?_
    refine Q.run zm226 1 (i' := 120) (ls' := [some (.ref 121), some (.int x1), some (.int x2), some (.int x3), some (.int x4)]) (st' := [.ref 121]) rfl ?_
    refine Q.map (A.gf (gI_of zm226 (e := (197, 3, .getfield 44, [9, 14])) rfl) (hl4.lt (a := 121) (by decide)) (hl4.T (a := 121) (p := (9, 45)) 43 rfl rfl) (by decide) (hl4.R 34 rfl)) ?_
    refine Q.run zm226 1 (i' := 122) (ls' := [some (.ref 121), some (.int x1), some (.int x2), some (.int x3), some (.int x4)]) (st' := [.int x1, .ref 133]) rfl ?_
    obtain ⟨hc10, h⟩ := ite_so h
    refine Q.map (A.ia (gI_of zm226 (e := (201, 1, .iaload, [])) rfl) (hl4.lt (a := 133) (by decide)) (hl4.T (a := 133) (p := (100, 1152)) 55 rfl rfl) hc10) ?_
    refine Q.run zm226 1 (i' := 124) (ls' := [some (.ref 121), some (.int x1), some (.int x2), some (.int x3), some (.int x4)]) (st' := [.int 1048576, .int (sI s2 133 (jN x1))]) rfl ?_
    obtain ⟨r13, hc12, h⟩ := bu_so h
    have hq11 : Q 2 sio tt cc d 227 0 [some (.int (sI s2 133 (jN x1))), some (.int 1048576)] [] s2 (.inl (some (.int r13)), s2) := dt227 (by omega) hl4  hc12
    refine Q.callI (gC_st zm226 (show zM226.2.2.2.2.2[124]? = some (204, 3, .invokestatic 317, [0, 227, 2]) from rfl) zm227 (show aC 2 [.int 1048576, .int (sI s2 133 (jN x1))] 2 = some ([some (.int (sI s2 133 (jN x1))), some (.int 1048576)], []) from rfl)) hq11 ?_
    by_cases hc14 : r13 = 0
    · rw [if_pos hc14] at h
      refine Q.map (A.zF (gI_of zm226 (e := (207, 3, .ifCond .ne 33, [140])) rfl) (fun q => of_decide_eq_true q hc14)) ?_
      refine Q.run zm226 1 (i' := 127) (ls' := [some (.ref 121), some (.int x1), some (.int x2), some (.int x3), some (.int x4)]) (st' := [.ref 121]) rfl ?_
      refine Q.map (A.gf (gI_of zm226 (e := (211, 3, .getfield 41, [9, 13])) rfl) (hl4.lt (a := 121) (by decide)) (hl4.T (a := 121) (p := (9, 45)) 43 rfl rfl) (by decide) (hl4.R 33 rfl)) ?_
      refine Q.run zm226 1 (i' := 129) (ls' := [some (.ref 121), some (.int x1), some (.int x2), some (.int x3), some (.int x4)]) (st' := [.int x1, .ref 132]) rfl ?_
      obtain ⟨hc15, h⟩ := ite_so h
      refine Q.map (A.ia (gI_of zm226 (e := (215, 1, .iaload, [])) rfl) (hl4.lt (a := 132) (by decide)) (hl4.T (a := 132) (p := (100, 1152)) 54 rfl rfl) hc15) ?_
      refine Q.run zm226 1 (i' := 131) (ls' := [some (.ref 121), some (.int x1), some (.int x2), some (.int x3), some (.int x4)]) (st' := [.int 16384, .int (sI s2 132 (jN x1))]) rfl ?_
      obtain ⟨r18, hc17, h⟩ := bu_so h
      have hq16 : Q 2 sio tt cc d 227 0 [some (.int (sI s2 132 (jN x1))), some (.int 16384)] [] s2 (.inl (some (.int r18)), s2) := dt227 (by omega) hl4  hc17
      refine Q.callI (gC_st zm226 (show zM226.2.2.2.2.2[131]? = some (219, 3, .invokestatic 317, [0, 227, 2]) from rfl) zm227 (show aC 2 [.int 16384, .int (sI s2 132 (jN x1))] 2 = some ([some (.int (sI s2 132 (jN x1))), some (.int 16384)], []) from rfl)) hq16 ?_
      by_cases hc19 : r18 = 0
      · rw [if_pos hc19] at h
        refine Q.map (A.zF (gI_of zm226 (e := (222, 3, .ifCond .ne 18, [140])) rfl) (fun q => of_decide_eq_true q hc19)) ?_
        refine Q.run zm226 1 (i' := 134) (ls' := [some (.ref 121), some (.int x1), some (.int x2), some (.int x3), some (.int x4)]) (st' := [.ref 121]) rfl ?_
        refine Q.map (A.gf (gI_of zm226 (e := (226, 3, .getfield 47, [9, 15])) rfl) (hl4.lt (a := 121) (by decide)) (hl4.T (a := 121) (p := (9, 45)) 43 rfl rfl) (by decide) (hl4.R 35 rfl)) ?_
        refine Q.run zm226 1 (i' := 136) (ls' := [some (.ref 121), some (.int x1), some (.int x2), some (.int x3), some (.int x4)]) (st' := [.int x1, .ref 134]) rfl ?_
        obtain ⟨hc20, h⟩ := ite_so h
        refine Q.map (A.ia (gI_of zm226 (e := (230, 1, .iaload, [])) rfl) (hl4.lt (a := 134) (by decide)) (hl4.T (a := 134) (p := (100, 1152)) 56 rfl rfl) hc20) ?_
        refine Q.run zm226 1 (i' := 138) (ls' := [some (.ref 121), some (.int x1), some (.int x2), some (.int x3), some (.int x4)]) (st' := [.int 16384, .int (sI s2 134 (jN x1))]) rfl ?_
        obtain ⟨r23, hc22, h⟩ := bu_so h
        have hq21 : Q 2 sio tt cc d 227 0 [some (.int (sI s2 134 (jN x1))), some (.int 16384)] [] s2 (.inl (some (.int r23)), s2) := dt227 (by omega) hl4  hc22
        refine Q.callI (gC_st zm226 (show zM226.2.2.2.2.2[138]? = some (234, 3, .invokestatic 317, [0, 227, 2]) from rfl) zm227 (show aC 2 [.int 16384, .int (sI s2 134 (jN x1))] 2 = some ([some (.int (sI s2 134 (jN x1))), some (.int 16384)], []) from rfl)) hq21 ?_
        by_cases hc24 : r23 = 0
        · rw [if_pos hc24] at h
          refine Q.map (A.zT (gI_of zm226 (e := (237, 3, .ifCond .eq 11, [144])) rfl) (decide_eq_true hc24)) ?_
          refine Q.run zm226 1 (i' := 145) (ls' := [some (.ref 121), some (.int x1), some (.int x2), some (.int x3), some (.int x4)]) (st' := [.int x4]) rfl ?_
          by_cases hc25 : x4 = 0
          · rw [if_pos hc25] at h
            refine Q.map (A.zF (gI_of zm226 (e := (250, 3, .ifCond .ne 8, [149])) rfl) (fun q => of_decide_eq_true q hc25)) ?_
            refine Q.run zm226 2 (i' := 148) (ls' := [some (.ref 121), some (.int x1), some (.int x2), some (.int x3), some (.int x4)]) (st' := [.int x1, .ref 121]) rfl ?_
            obtain ⟨s28, hc27, h⟩ := bu_so h
            have hq26 : Q 2 sio tt cc d 219 0 [some (.ref 121), some (.int x1), none] [] s2 (.inl none, s28) := dt219 (by omega) hl4  hc27
            refine Q.callV (gC_vi zm226 (show zM226.2.2.2.2.2[148]? = some (255, 3, .invokevirtual 219, [0, 219, 1, 9]) from rfl) zm219 (hl4.lt (a := 121) (by decide)) (hl4.T (a := 121) (p := (9, 45)) 43 rfl rfl) rfl (show aCr 1 121 [.int x1, .ref 121] 3 = some ([some (.ref 121), some (.int x1), none], []) from rfl)) hq26 ?_
            cases h
            exact Q.ret (A.rv zm226 (show zM226.2.2.2.2.2[149]? = some (258, 1, .return_, []) from rfl) rfl) hq26.1
          · rw [if_neg hc25] at h
            refine Q.map (A.zT (gI_of zm226 (e := (250, 3, .ifCond .ne 8, [149])) rfl) (decide_eq_true hc25)) ?_
            cases h
            exact Q.ret (A.rv zm226 (show zM226.2.2.2.2.2[149]? = some (258, 1, .return_, []) from rfl) rfl) hl4
        · rw [if_neg hc24] at h
          refine Q.map (A.zF (gI_of zm226 (e := (237, 3, .ifCond .eq 11, [144])) rfl) (fun q => hc24 (of_decide_eq_true q))) ?_
          exact dt226_140 hd hl4  h
      · rw [if_neg hc19] at h
        refine Q.map (A.zT (gI_of zm226 (e := (222, 3, .ifCond .ne 18, [140])) rfl) (decide_eq_true hc19)) ?_
        exact dt226_140 hd hl4  h
    · rw [if_neg hc14] at h
      refine Q.map (A.zT (gI_of zm226 (e := (207, 3, .ifCond .ne 33, [140])) rfl) (decide_eq_true hc14)) ?_
      exact dt226_140 hd hl4  h
  · rw [if_neg hc9] at h
    refine Q.map (A.zT (gI_of zm226 (e := (193, 3, .ifCond .ne 47, [140])) rfl) (decide_eq_true hc9)) ?_
    exact dt226_140 hd hl4  h
def dm226_82 (x1 : Int32) (x3 : Int32) (x4 : Int32) (y1 : Int32) (y2 : Int32) (s : aS) : Option (aS) :=
  if aB y1 1152 then
    nx (wI s 133 (jN y1) y2) fun s2 =>
    if x4 = 0 then
      if aB x1 1152 then
        if ((sI s2 135 (jN x1)) &&& 8) ≤ 0 then
          if aB x1 1152 then
            dm226_111 x1 x4 x1 ((sI s2 134 (jN x1)) + x3) s2
          else none
        else
          if aB x1 1152 then
            dm226_111 x1 x4 x1 (sI s2 134 (jN x1)) s2
          else none
      else none
    else
      if aB x1 1152 then
        dm226_111 x1 x4 x1 (sI s2 132 (jN x1)) s2
      else none
  else none
set_option maxRecDepth 100000 in
theorem dt226_82 {sio : Bool} {tt : Nat} {cc : Nat → Nat → Int32} {d : Nat} (hd : 1 ≤ d) {x1 : Int32} {x3 : Int32} {x4 : Int32} {y1 : Int32} {y2 : Int32} {x2 : Int32} {s : aS} (hl : Ly tt cc s) {o : aS} (h : dm226_82  x1 x3 x4 y1 y2 s = some o) : Q 2 sio tt cc d 226 82 [some (.ref 121), some (.int x1), some (.int x2), some (.int x3), some (.int x4)] [.int y2, .int y1, .ref 133] s (.inl none, o) := by
  unfold dm226_82 at h
  obtain ⟨d, rfl⟩ : ∃ e, d = e + 1 := ⟨d - 1, by omega⟩
  obtain ⟨hc1, h⟩ := ite_so h
  obtain ⟨s2, hs3, h⟩ := nx_so h
  refine Q.is hs3 rfl (gI_of zm226 (e := (132, 1, .iastore, [])) rfl) (hl.lt (a := 133) (by decide)) (by decide) (hl.T (a := 133) (p := (100, 1152)) 55 rfl rfl) hc1 ?_
  have hl4 : Ly tt cc s2 := by rw [hs3]; exact hl.wId (by decide)
  refine Q.run zm226 1 (i' := 84) (ls' := [some (.ref 121), some (.int x1), some (.int x2), some (.int x3), some (.int x4)]) (st' := [.ref 121]) rfl ?_
  refine Q.map (A.gf (gI_of zm226 (e := (134, 3, .getfield 47, [9, 15])) rfl) (hl4.lt (a := 121) (by decide)) (hl4.T (a := 121) (p := (9, 45)) 43 rfl rfl) (by decide) (hl4.R 35 rfl)) ?_
  refine Q.run zm226 2 (i' := 87) (ls' := [some (.ref 121), some (.int x1), some (.int x2), some (.int x3), some (.int x4)]) (st' := [.int x4, .int x1, .ref 134]) rfl ?_
  by_cases hc5 : x4 = 0
  · rw [if_pos hc5] at h
    refine Q.map (A.zT (gI_of zm226 (e := (140, 3, .ifCond .eq 12, [93])) rfl) (decide_eq_true hc5)) ?_
    refine Q.run zm226 1 (i' := 94) (ls' := [some (.ref 121), some (.int x1), some (.int x2), some (.int x3), some (.int x4)]) (st' := [.ref 121, .int x1, .ref 134]) rfl ?_
    refine Q.map (A.gf (gI_of zm226 (e := (153, 3, .getfield 50, [9, 16])) rfl) (hl4.lt (a := 121) (by decide)) (hl4.T (a := 121) (p := (9, 45)) 43 rfl rfl) (by decide) (hl4.R 36 rfl)) ?_
    refine Q.run zm226 1 (i' := 96) (ls' := [some (.ref 121), some (.int x1), some (.int x2), some (.int x3), some (.int x4)]) (st' := [.int x1, .ref 135, .int x1, .ref 134]) rfl ?_
    obtain ⟨hc6, h⟩ := ite_so h
    refine Q.map (A.ia (gI_of zm226 (e := (157, 1, .iaload, [])) rfl) (hl4.lt (a := 135) (by decide)) (hl4.T (a := 135) (p := (100, 1152)) 57 rfl rfl) hc6) ?_
    refine Q.run zm226 2 (i' := 99) (ls' := [some (.ref 121), some (.int x1), some (.int x2), some (.int x3), some (.int x4)]) (st' := [.int ((sI s2 135 (jN x1)) &&& 8), .int x1, .ref 134]) rfl ?_
    by_cases hc7 : ((sI s2 135 (jN x1)) &&& 8) ≤ 0
    · rw [if_pos hc7] at h
      refine Q.map (A.zT (gI_of zm226 (e := (161, 3, .ifCond .le 12, [105])) rfl) (decide_eq_true hc7)) ?_
      refine Q.run zm226 1 (i' := 106) (ls' := [some (.ref 121), some (.int x1), some (.int x2), some (.int x3), some (.int x4)]) (st' := [.ref 121, .int x1, .ref 134]) rfl ?_
      refine Q.map (A.gf (gI_of zm226 (e := (174, 3, .getfield 47, [9, 15])) rfl) (hl4.lt (a := 121) (by decide)) (hl4.T (a := 121) (p := (9, 45)) 43 rfl rfl) (by decide) (hl4.R 35 rfl)) ?_
      refine Q.run zm226 1 (i' := 108) (ls' := [some (.ref 121), some (.int x1), some (.int x2), some (.int x3), some (.int x4)]) (st' := [.int x1, .ref 134, .int x1, .ref 134]) rfl ?_
      obtain ⟨hc8, h⟩ := ite_so h
      refine Q.map (A.ia (gI_of zm226 (e := (178, 1, .iaload, [])) rfl) (hl4.lt (a := 134) (by decide)) (hl4.T (a := 134) (p := (100, 1152)) 56 rfl rfl) hc8) ?_
      refine Q.run zm226 2 (i' := 111) (ls' := [some (.ref 121), some (.int x1), some (.int x2), some (.int x3), some (.int x4)]) (st' := [.int ((sI s2 134 (jN x1)) + x3), .int x1, .ref 134]) rfl ?_
      exact dt226_111 hd hl4  h
    · rw [if_neg hc7] at h
      refine Q.map (A.zF (gI_of zm226 (e := (161, 3, .ifCond .le 12, [105])) rfl) (fun q => hc7 (of_decide_eq_true q))) ?_
      refine Q.run zm226 1 (i' := 101) (ls' := [some (.ref 121), some (.int x1), some (.int x2), some (.int x3), some (.int x4)]) (st' := [.ref 121, .int x1, .ref 134]) rfl ?_
      refine Q.map (A.gf (gI_of zm226 (e := (165, 3, .getfield 47, [9, 15])) rfl) (hl4.lt (a := 121) (by decide)) (hl4.T (a := 121) (p := (9, 45)) 43 rfl rfl) (by decide) (hl4.R 35 rfl)) ?_
      refine Q.run zm226 1 (i' := 103) (ls' := [some (.ref 121), some (.int x1), some (.int x2), some (.int x3), some (.int x4)]) (st' := [.int x1, .ref 134, .int x1, .ref 134]) rfl ?_
      obtain ⟨hc9, h⟩ := ite_so h
      refine Q.map (A.ia (gI_of zm226 (e := (169, 1, .iaload, [])) rfl) (hl4.lt (a := 134) (by decide)) (hl4.T (a := 134) (p := (100, 1152)) 56 rfl rfl) hc9) ?_
      refine Q.run zm226 1 (i' := 111) (ls' := [some (.ref 121), some (.int x1), some (.int x2), some (.int x3), some (.int x4)]) (st' := [.int (sI s2 134 (jN x1)), .int x1, .ref 134]) rfl ?_
      exact dt226_111 hd hl4  h
  · rw [if_neg hc5] at h
    refine Q.map (A.zF (gI_of zm226 (e := (140, 3, .ifCond .eq 12, [93])) rfl) (fun q => hc5 (of_decide_eq_true q))) ?_
    refine Q.run zm226 1 (i' := 89) (ls' := [some (.ref 121), some (.int x1), some (.int x2), some (.int x3), some (.int x4)]) (st' := [.ref 121, .int x1, .ref 134]) rfl ?_
    refine Q.map (A.gf (gI_of zm226 (e := (144, 3, .getfield 41, [9, 13])) rfl) (hl4.lt (a := 121) (by decide)) (hl4.T (a := 121) (p := (9, 45)) 43 rfl rfl) (by decide) (hl4.R 33 rfl)) ?_
    refine Q.run zm226 1 (i' := 91) (ls' := [some (.ref 121), some (.int x1), some (.int x2), some (.int x3), some (.int x4)]) (st' := [.int x1, .ref 132, .int x1, .ref 134]) rfl ?_
    obtain ⟨hc10, h⟩ := ite_so h
    refine Q.map (A.ia (gI_of zm226 (e := (148, 1, .iaload, [])) rfl) (hl4.lt (a := 132) (by decide)) (hl4.T (a := 132) (p := (100, 1152)) 54 rfl rfl) hc10) ?_
    refine Q.run zm226 1 (i' := 111) (ls' := [some (.ref 121), some (.int x1), some (.int x2), some (.int x3), some (.int x4)]) (st' := [.int (sI s2 132 (jN x1)), .int x1, .ref 134]) rfl ?_
    exact dt226_111 hd hl4  h
def dm226_53 (x1 : Int32) (x2 : Int32) (x3 : Int32) (x4 : Int32) (y1 : Int32) (y2 : Int32) (s : aS) : Option (aS) :=
  if aB y1 1152 then
    nx (wI s 132 (jN y1) y2) fun s2 =>
    if x4 = 0 then
      if aB x1 1152 then
        if ((sI s2 135 (jN x1)) &&& 4) ≤ 0 then
          if aB x1 1152 then
            dm226_82 x1 x3 x4 x1 ((sI s2 133 (jN x1)) + x2) s2
          else none
        else
          if aB x1 1152 then
            dm226_82 x1 x3 x4 x1 (sI s2 133 (jN x1)) s2
          else none
      else none
    else
      if aB x1 1152 then
        dm226_82 x1 x3 x4 x1 (sI s2 131 (jN x1)) s2
      else none
  else none
set_option maxRecDepth 100000 in
theorem dt226_53 {sio : Bool} {tt : Nat} {cc : Nat → Nat → Int32} {d : Nat} (hd : 1 ≤ d) {x1 : Int32} {x2 : Int32} {x3 : Int32} {x4 : Int32} {y1 : Int32} {y2 : Int32} {s : aS} (hl : Ly tt cc s) {o : aS} (h : dm226_53  x1 x2 x3 x4 y1 y2 s = some o) : Q 2 sio tt cc d 226 53 [some (.ref 121), some (.int x1), some (.int x2), some (.int x3), some (.int x4)] [.int y2, .int y1, .ref 132] s (.inl none, o) := by
  unfold dm226_53 at h
  obtain ⟨d, rfl⟩ : ∃ e, d = e + 1 := ⟨d - 1, by omega⟩
  obtain ⟨hc1, h⟩ := ite_so h
  obtain ⟨s2, hs3, h⟩ := nx_so h
  refine Q.is hs3 rfl (gI_of zm226 (e := (84, 1, .iastore, [])) rfl) (hl.lt (a := 132) (by decide)) (by decide) (hl.T (a := 132) (p := (100, 1152)) 54 rfl rfl) hc1 ?_
  have hl4 : Ly tt cc s2 := by rw [hs3]; exact hl.wId (by decide)
  refine Q.run zm226 1 (i' := 55) (ls' := [some (.ref 121), some (.int x1), some (.int x2), some (.int x3), some (.int x4)]) (st' := [.ref 121]) rfl ?_
  refine Q.map (A.gf (gI_of zm226 (e := (86, 3, .getfield 44, [9, 14])) rfl) (hl4.lt (a := 121) (by decide)) (hl4.T (a := 121) (p := (9, 45)) 43 rfl rfl) (by decide) (hl4.R 34 rfl)) ?_
  refine Q.run zm226 2 (i' := 58) (ls' := [some (.ref 121), some (.int x1), some (.int x2), some (.int x3), some (.int x4)]) (st' := [.int x4, .int x1, .ref 133]) rfl ?_
  by_cases hc5 : x4 = 0
  · rw [if_pos hc5] at h
    refine Q.map (A.zT (gI_of zm226 (e := (92, 3, .ifCond .eq 12, [64])) rfl) (decide_eq_true hc5)) ?_
    refine Q.run zm226 1 (i' := 65) (ls' := [some (.ref 121), some (.int x1), some (.int x2), some (.int x3), some (.int x4)]) (st' := [.ref 121, .int x1, .ref 133]) rfl ?_
    refine Q.map (A.gf (gI_of zm226 (e := (105, 3, .getfield 50, [9, 16])) rfl) (hl4.lt (a := 121) (by decide)) (hl4.T (a := 121) (p := (9, 45)) 43 rfl rfl) (by decide) (hl4.R 36 rfl)) ?_
    refine Q.run zm226 1 (i' := 67) (ls' := [some (.ref 121), some (.int x1), some (.int x2), some (.int x3), some (.int x4)]) (st' := [.int x1, .ref 135, .int x1, .ref 133]) rfl ?_
    obtain ⟨hc6, h⟩ := ite_so h
    refine Q.map (A.ia (gI_of zm226 (e := (109, 1, .iaload, [])) rfl) (hl4.lt (a := 135) (by decide)) (hl4.T (a := 135) (p := (100, 1152)) 57 rfl rfl) hc6) ?_
    refine Q.run zm226 2 (i' := 70) (ls' := [some (.ref 121), some (.int x1), some (.int x2), some (.int x3), some (.int x4)]) (st' := [.int ((sI s2 135 (jN x1)) &&& 4), .int x1, .ref 133]) rfl ?_
    by_cases hc7 : ((sI s2 135 (jN x1)) &&& 4) ≤ 0
    · rw [if_pos hc7] at h
      refine Q.map (A.zT (gI_of zm226 (e := (112, 3, .ifCond .le 12, [76])) rfl) (decide_eq_true hc7)) ?_
      refine Q.run zm226 1 (i' := 77) (ls' := [some (.ref 121), some (.int x1), some (.int x2), some (.int x3), some (.int x4)]) (st' := [.ref 121, .int x1, .ref 133]) rfl ?_
      refine Q.map (A.gf (gI_of zm226 (e := (125, 3, .getfield 44, [9, 14])) rfl) (hl4.lt (a := 121) (by decide)) (hl4.T (a := 121) (p := (9, 45)) 43 rfl rfl) (by decide) (hl4.R 34 rfl)) ?_
      refine Q.run zm226 1 (i' := 79) (ls' := [some (.ref 121), some (.int x1), some (.int x2), some (.int x3), some (.int x4)]) (st' := [.int x1, .ref 133, .int x1, .ref 133]) rfl ?_
      obtain ⟨hc8, h⟩ := ite_so h
      refine Q.map (A.ia (gI_of zm226 (e := (129, 1, .iaload, [])) rfl) (hl4.lt (a := 133) (by decide)) (hl4.T (a := 133) (p := (100, 1152)) 55 rfl rfl) hc8) ?_
      refine Q.run zm226 2 (i' := 82) (ls' := [some (.ref 121), some (.int x1), some (.int x2), some (.int x3), some (.int x4)]) (st' := [.int ((sI s2 133 (jN x1)) + x2), .int x1, .ref 133]) rfl ?_
      exact dt226_82 hd hl4  h
    · rw [if_neg hc7] at h
      refine Q.map (A.zF (gI_of zm226 (e := (112, 3, .ifCond .le 12, [76])) rfl) (fun q => hc7 (of_decide_eq_true q))) ?_
      refine Q.run zm226 1 (i' := 72) (ls' := [some (.ref 121), some (.int x1), some (.int x2), some (.int x3), some (.int x4)]) (st' := [.ref 121, .int x1, .ref 133]) rfl ?_
      refine Q.map (A.gf (gI_of zm226 (e := (116, 3, .getfield 44, [9, 14])) rfl) (hl4.lt (a := 121) (by decide)) (hl4.T (a := 121) (p := (9, 45)) 43 rfl rfl) (by decide) (hl4.R 34 rfl)) ?_
      refine Q.run zm226 1 (i' := 74) (ls' := [some (.ref 121), some (.int x1), some (.int x2), some (.int x3), some (.int x4)]) (st' := [.int x1, .ref 133, .int x1, .ref 133]) rfl ?_
      obtain ⟨hc9, h⟩ := ite_so h
      refine Q.map (A.ia (gI_of zm226 (e := (120, 1, .iaload, [])) rfl) (hl4.lt (a := 133) (by decide)) (hl4.T (a := 133) (p := (100, 1152)) 55 rfl rfl) hc9) ?_
      refine Q.run zm226 1 (i' := 82) (ls' := [some (.ref 121), some (.int x1), some (.int x2), some (.int x3), some (.int x4)]) (st' := [.int (sI s2 133 (jN x1)), .int x1, .ref 133]) rfl ?_
      exact dt226_82 hd hl4  h
  · rw [if_neg hc5] at h
    refine Q.map (A.zF (gI_of zm226 (e := (92, 3, .ifCond .eq 12, [64])) rfl) (fun q => hc5 (of_decide_eq_true q))) ?_
    refine Q.run zm226 1 (i' := 60) (ls' := [some (.ref 121), some (.int x1), some (.int x2), some (.int x3), some (.int x4)]) (st' := [.ref 121, .int x1, .ref 133]) rfl ?_
    refine Q.map (A.gf (gI_of zm226 (e := (96, 3, .getfield 38, [9, 12])) rfl) (hl4.lt (a := 121) (by decide)) (hl4.T (a := 121) (p := (9, 45)) 43 rfl rfl) (by decide) (hl4.R 32 rfl)) ?_
    refine Q.run zm226 1 (i' := 62) (ls' := [some (.ref 121), some (.int x1), some (.int x2), some (.int x3), some (.int x4)]) (st' := [.int x1, .ref 131, .int x1, .ref 133]) rfl ?_
    obtain ⟨hc10, h⟩ := ite_so h
    refine Q.map (A.ia (gI_of zm226 (e := (100, 1, .iaload, [])) rfl) (hl4.lt (a := 131) (by decide)) (hl4.T (a := 131) (p := (100, 1152)) 53 rfl rfl) hc10) ?_
    refine Q.run zm226 1 (i' := 82) (ls' := [some (.ref 121), some (.int x1), some (.int x2), some (.int x3), some (.int x4)]) (st' := [.int (sI s2 131 (jN x1)), .int x1, .ref 133]) rfl ?_
    exact dt226_82 hd hl4  h
def dm226_31 (x1 : Int32) (x2 : Int32) (x3 : Int32) (x4 : Int32) (y1 : Int32) (y2 : Int32) (s : aS) : Option (aS) :=
  if aB y1 1152 then
    nx (wI s 131 (jN y1) y2) fun s2 =>
    if aB x1 1152 then
      if ((sI s2 135 (jN x1)) &&& 2) ≤ 0 then
        if aB x1 1152 then
          dm226_53 x1 x2 x3 x4 x1 ((sI s2 132 (jN x1)) + x3) s2
        else none
      else
        if aB x1 1152 then
          dm226_53 x1 x2 x3 x4 x1 (sI s2 132 (jN x1)) s2
        else none
    else none
  else none
set_option maxRecDepth 100000 in
theorem dt226_31 {sio : Bool} {tt : Nat} {cc : Nat → Nat → Int32} {d : Nat} (hd : 1 ≤ d) {x1 : Int32} {x2 : Int32} {x3 : Int32} {x4 : Int32} {y1 : Int32} {y2 : Int32} {s : aS} (hl : Ly tt cc s) {o : aS} (h : dm226_31  x1 x2 x3 x4 y1 y2 s = some o) : Q 2 sio tt cc d 226 31 [some (.ref 121), some (.int x1), some (.int x2), some (.int x3), some (.int x4)] [.int y2, .int y1, .ref 131] s (.inl none, o) := by
  unfold dm226_31 at h
  obtain ⟨d, rfl⟩ : ∃ e, d = e + 1 := ⟨d - 1, by omega⟩
  obtain ⟨hc1, h⟩ := ite_so h
  obtain ⟨s2, hs3, h⟩ := nx_so h
  refine Q.is hs3 rfl (gI_of zm226 (e := (50, 1, .iastore, [])) rfl) (hl.lt (a := 131) (by decide)) (by decide) (hl.T (a := 131) (p := (100, 1152)) 53 rfl rfl) hc1 ?_
  have hl4 : Ly tt cc s2 := by rw [hs3]; exact hl.wId (by decide)
  refine Q.run zm226 1 (i' := 33) (ls' := [some (.ref 121), some (.int x1), some (.int x2), some (.int x3), some (.int x4)]) (st' := [.ref 121]) rfl ?_
  refine Q.map (A.gf (gI_of zm226 (e := (52, 3, .getfield 41, [9, 13])) rfl) (hl4.lt (a := 121) (by decide)) (hl4.T (a := 121) (p := (9, 45)) 43 rfl rfl) (by decide) (hl4.R 33 rfl)) ?_
  refine Q.run zm226 2 (i' := 36) (ls' := [some (.ref 121), some (.int x1), some (.int x2), some (.int x3), some (.int x4)]) (st' := [.ref 121, .int x1, .ref 132]) rfl ?_
  refine Q.map (A.gf (gI_of zm226 (e := (57, 3, .getfield 50, [9, 16])) rfl) (hl4.lt (a := 121) (by decide)) (hl4.T (a := 121) (p := (9, 45)) 43 rfl rfl) (by decide) (hl4.R 36 rfl)) ?_
  refine Q.run zm226 1 (i' := 38) (ls' := [some (.ref 121), some (.int x1), some (.int x2), some (.int x3), some (.int x4)]) (st' := [.int x1, .ref 135, .int x1, .ref 132]) rfl ?_
  obtain ⟨hc5, h⟩ := ite_so h
  refine Q.map (A.ia (gI_of zm226 (e := (61, 1, .iaload, [])) rfl) (hl4.lt (a := 135) (by decide)) (hl4.T (a := 135) (p := (100, 1152)) 57 rfl rfl) hc5) ?_
  refine Q.run zm226 2 (i' := 41) (ls' := [some (.ref 121), some (.int x1), some (.int x2), some (.int x3), some (.int x4)]) (st' := [.int ((sI s2 135 (jN x1)) &&& 2), .int x1, .ref 132]) rfl ?_
  by_cases hc6 : ((sI s2 135 (jN x1)) &&& 2) ≤ 0
  · rw [if_pos hc6] at h
    refine Q.map (A.zT (gI_of zm226 (e := (64, 3, .ifCond .le 12, [47])) rfl) (decide_eq_true hc6)) ?_
    refine Q.run zm226 1 (i' := 48) (ls' := [some (.ref 121), some (.int x1), some (.int x2), some (.int x3), some (.int x4)]) (st' := [.ref 121, .int x1, .ref 132]) rfl ?_
    refine Q.map (A.gf (gI_of zm226 (e := (77, 3, .getfield 41, [9, 13])) rfl) (hl4.lt (a := 121) (by decide)) (hl4.T (a := 121) (p := (9, 45)) 43 rfl rfl) (by decide) (hl4.R 33 rfl)) ?_
    refine Q.run zm226 1 (i' := 50) (ls' := [some (.ref 121), some (.int x1), some (.int x2), some (.int x3), some (.int x4)]) (st' := [.int x1, .ref 132, .int x1, .ref 132]) rfl ?_
    obtain ⟨hc7, h⟩ := ite_so h
    refine Q.map (A.ia (gI_of zm226 (e := (81, 1, .iaload, [])) rfl) (hl4.lt (a := 132) (by decide)) (hl4.T (a := 132) (p := (100, 1152)) 54 rfl rfl) hc7) ?_
    refine Q.run zm226 2 (i' := 53) (ls' := [some (.ref 121), some (.int x1), some (.int x2), some (.int x3), some (.int x4)]) (st' := [.int ((sI s2 132 (jN x1)) + x3), .int x1, .ref 132]) rfl ?_
    exact dt226_53 hd hl4  h
  · rw [if_neg hc6] at h
    refine Q.map (A.zF (gI_of zm226 (e := (64, 3, .ifCond .le 12, [47])) rfl) (fun q => hc6 (of_decide_eq_true q))) ?_
    refine Q.run zm226 1 (i' := 43) (ls' := [some (.ref 121), some (.int x1), some (.int x2), some (.int x3), some (.int x4)]) (st' := [.ref 121, .int x1, .ref 132]) rfl ?_
    refine Q.map (A.gf (gI_of zm226 (e := (68, 3, .getfield 41, [9, 13])) rfl) (hl4.lt (a := 121) (by decide)) (hl4.T (a := 121) (p := (9, 45)) 43 rfl rfl) (by decide) (hl4.R 33 rfl)) ?_
    refine Q.run zm226 1 (i' := 45) (ls' := [some (.ref 121), some (.int x1), some (.int x2), some (.int x3), some (.int x4)]) (st' := [.int x1, .ref 132, .int x1, .ref 132]) rfl ?_
    obtain ⟨hc8, h⟩ := ite_so h
    refine Q.map (A.ia (gI_of zm226 (e := (72, 1, .iaload, [])) rfl) (hl4.lt (a := 132) (by decide)) (hl4.T (a := 132) (p := (100, 1152)) 54 rfl rfl) hc8) ?_
    refine Q.run zm226 1 (i' := 53) (ls' := [some (.ref 121), some (.int x1), some (.int x2), some (.int x3), some (.int x4)]) (st' := [.int (sI s2 132 (jN x1)), .int x1, .ref 132]) rfl ?_
    exact dt226_53 hd hl4  h
def dm226_9 (x1 : Int32) (x2 : Int32) (x3 : Int32) (y0 : Int32) (s : aS) : Option (aS) :=
  if aB x1 1152 then
    if ((sI s 135 (jN x1)) &&& 1) ≤ 0 then
      if aB x1 1152 then
        dm226_31 x1 x2 x3 y0 x1 ((sI s 131 (jN x1)) + x2) s
      else none
    else
      if aB x1 1152 then
        dm226_31 x1 x2 x3 y0 x1 (sI s 131 (jN x1)) s
      else none
  else none
set_option maxRecDepth 100000 in
theorem dt226_9 {sio : Bool} {tt : Nat} {cc : Nat → Nat → Int32} {d : Nat} (hd : 1 ≤ d) {x1 : Int32} {x2 : Int32} {x3 : Int32} {y0 : Int32} {s : aS} (hl : Ly tt cc s) {o : aS} (h : dm226_9  x1 x2 x3 y0 s = some o) : Q 2 sio tt cc d 226 9 [some (.ref 121), some (.int x1), some (.int x2), some (.int x3), none] [.int y0] s (.inl none, o) := by
  unfold dm226_9 at h
  obtain ⟨d, rfl⟩ : ∃ e, d = e + 1 := ⟨d - 1, by omega⟩
  refine Q.run zm226 2 (i' := 11) (ls' := [some (.ref 121), some (.int x1), some (.int x2), some (.int x3), some (.int y0)]) (st' := [.ref 121]) rfl ?_
  refine Q.map (A.gf (gI_of zm226 (e := (18, 3, .getfield 38, [9, 12])) rfl) (hl.lt (a := 121) (by decide)) (hl.T (a := 121) (p := (9, 45)) 43 rfl rfl) (by decide) (hl.R 32 rfl)) ?_
  refine Q.run zm226 2 (i' := 14) (ls' := [some (.ref 121), some (.int x1), some (.int x2), some (.int x3), some (.int y0)]) (st' := [.ref 121, .int x1, .ref 131]) rfl ?_
  refine Q.map (A.gf (gI_of zm226 (e := (23, 3, .getfield 50, [9, 16])) rfl) (hl.lt (a := 121) (by decide)) (hl.T (a := 121) (p := (9, 45)) 43 rfl rfl) (by decide) (hl.R 36 rfl)) ?_
  refine Q.run zm226 1 (i' := 16) (ls' := [some (.ref 121), some (.int x1), some (.int x2), some (.int x3), some (.int y0)]) (st' := [.int x1, .ref 135, .int x1, .ref 131]) rfl ?_
  obtain ⟨hc1, h⟩ := ite_so h
  refine Q.map (A.ia (gI_of zm226 (e := (27, 1, .iaload, [])) rfl) (hl.lt (a := 135) (by decide)) (hl.T (a := 135) (p := (100, 1152)) 57 rfl rfl) hc1) ?_
  refine Q.run zm226 2 (i' := 19) (ls' := [some (.ref 121), some (.int x1), some (.int x2), some (.int x3), some (.int y0)]) (st' := [.int ((sI s 135 (jN x1)) &&& 1), .int x1, .ref 131]) rfl ?_
  by_cases hc2 : ((sI s 135 (jN x1)) &&& 1) ≤ 0
  · rw [if_pos hc2] at h
    refine Q.map (A.zT (gI_of zm226 (e := (30, 3, .ifCond .le 12, [25])) rfl) (decide_eq_true hc2)) ?_
    refine Q.run zm226 1 (i' := 26) (ls' := [some (.ref 121), some (.int x1), some (.int x2), some (.int x3), some (.int y0)]) (st' := [.ref 121, .int x1, .ref 131]) rfl ?_
    refine Q.map (A.gf (gI_of zm226 (e := (43, 3, .getfield 38, [9, 12])) rfl) (hl.lt (a := 121) (by decide)) (hl.T (a := 121) (p := (9, 45)) 43 rfl rfl) (by decide) (hl.R 32 rfl)) ?_
    refine Q.run zm226 1 (i' := 28) (ls' := [some (.ref 121), some (.int x1), some (.int x2), some (.int x3), some (.int y0)]) (st' := [.int x1, .ref 131, .int x1, .ref 131]) rfl ?_
    obtain ⟨hc3, h⟩ := ite_so h
    refine Q.map (A.ia (gI_of zm226 (e := (47, 1, .iaload, [])) rfl) (hl.lt (a := 131) (by decide)) (hl.T (a := 131) (p := (100, 1152)) 53 rfl rfl) hc3) ?_
    refine Q.run zm226 2 (i' := 31) (ls' := [some (.ref 121), some (.int x1), some (.int x2), some (.int x3), some (.int y0)]) (st' := [.int ((sI s 131 (jN x1)) + x2), .int x1, .ref 131]) rfl ?_
    exact dt226_31 hd hl  h
  · rw [if_neg hc2] at h
    refine Q.map (A.zF (gI_of zm226 (e := (30, 3, .ifCond .le 12, [25])) rfl) (fun q => hc2 (of_decide_eq_true q))) ?_
    refine Q.run zm226 1 (i' := 21) (ls' := [some (.ref 121), some (.int x1), some (.int x2), some (.int x3), some (.int y0)]) (st' := [.ref 121, .int x1, .ref 131]) rfl ?_
    refine Q.map (A.gf (gI_of zm226 (e := (34, 3, .getfield 38, [9, 12])) rfl) (hl.lt (a := 121) (by decide)) (hl.T (a := 121) (p := (9, 45)) 43 rfl rfl) (by decide) (hl.R 32 rfl)) ?_
    refine Q.run zm226 1 (i' := 23) (ls' := [some (.ref 121), some (.int x1), some (.int x2), some (.int x3), some (.int y0)]) (st' := [.int x1, .ref 131, .int x1, .ref 131]) rfl ?_
    obtain ⟨hc4, h⟩ := ite_so h
    refine Q.map (A.ia (gI_of zm226 (e := (38, 1, .iaload, [])) rfl) (hl.lt (a := 131) (by decide)) (hl.T (a := 131) (p := (100, 1152)) 53 rfl rfl) hc4) ?_
    refine Q.run zm226 1 (i' := 31) (ls' := [some (.ref 121), some (.int x1), some (.int x2), some (.int x3), some (.int y0)]) (st' := [.int (sI s 131 (jN x1)), .int x1, .ref 131]) rfl ?_
    exact dt226_31 hd hl  h
def dm226 (x1 : Int32) (x2 : Int32) (x3 : Int32) (s : aS) : Option (aS) :=
  if aB x1 1152 then
    if (sI s 128 (jN x1)) = 4 then
      dm226_9 x1 x2 x3 1 s
    else
      dm226_9 x1 x2 x3 0 s
  else none
set_option maxRecDepth 100000 in
theorem dt226 {sio : Bool} {tt : Nat} {cc : Nat → Nat → Int32} {d : Nat} (hd : 1 ≤ d) {x1 : Int32} {x2 : Int32} {x3 : Int32} {s : aS} (hl : Ly tt cc s) {o : aS} (h : dm226  x1 x2 x3 s = some o) : Q 2 sio tt cc d 226 0 [some (.ref 121), some (.int x1), some (.int x2), some (.int x3), none] [] s (.inl none, o) := by
  unfold dm226 at h
  obtain ⟨d, rfl⟩ : ∃ e, d = e + 1 := ⟨d - 1, by omega⟩
  refine Q.run zm226 1 (i' := 1) (ls' := [some (.ref 121), some (.int x1), some (.int x2), some (.int x3), none]) (st' := [.ref 121]) rfl ?_
  refine Q.map (A.gf (gI_of zm226 (e := (1, 3, .getfield 29, [9, 9])) rfl) (hl.lt (a := 121) (by decide)) (hl.T (a := 121) (p := (9, 45)) 43 rfl rfl) (by decide) (hl.R 29 rfl)) ?_
  refine Q.run zm226 1 (i' := 3) (ls' := [some (.ref 121), some (.int x1), some (.int x2), some (.int x3), none]) (st' := [.int x1, .ref 128]) rfl ?_
  obtain ⟨hc1, h⟩ := ite_so h
  refine Q.map (A.ia (gI_of zm226 (e := (5, 1, .iaload, [])) rfl) (hl.lt (a := 128) (by decide)) (hl.T (a := 128) (p := (100, 1152)) 50 rfl rfl) hc1) ?_
  refine Q.run zm226 1 (i' := 5) (ls' := [some (.ref 121), some (.int x1), some (.int x2), some (.int x3), none]) (st' := [.int 4, .int (sI s 128 (jN x1))]) rfl ?_
  by_cases hc2 : (sI s 128 (jN x1)) = 4
  · rw [if_pos hc2] at h
    refine Q.map (A.bF (gI_of zm226 (e := (7, 3, .if_icmp .ne 7, [8])) rfl) (fun q => of_decide_eq_true q hc2)) ?_
    refine Q.run zm226 2 (i' := 9) (ls' := [some (.ref 121), some (.int x1), some (.int x2), some (.int x3), none]) (st' := [.int 1]) rfl ?_
    exact dt226_9 hd hl  h
  · rw [if_neg hc2] at h
    refine Q.map (A.bT (gI_of zm226 (e := (7, 3, .if_icmp .ne 7, [8])) rfl) (decide_eq_true hc2)) ?_
    refine Q.run zm226 1 (i' := 9) (ls' := [some (.ref 121), some (.int x1), some (.int x2), some (.int x3), none]) (st' := [.int 0]) rfl ?_
    exact dt226_9 hd hl  h
