section
/-! 132 FormulaTrees.lastOf(Z)I -/
set_option maxRecDepth 100000 in
theorem zm132 : zP[132]? = some zM132 := rfl
def dm132 (x0 : Int32) : Option (Int32) :=
  if x0 = 0 then
    some 16384
  else
    some 1048576
set_option maxRecDepth 100000 in
theorem dt132 {sio : Bool} {tt : Nat} {cc : Nat → Nat → Int32} {d : Nat} (hd : 0 ≤ d) {x0 : Int32} {s : aS} (hl : Ly tt cc s) {o : Int32} (h : dm132  x0 = some o) : Q 1 sio tt cc d 132 0 [some (.int x0)] [] s (.inl (some (.int o)), s) := by
  unfold dm132 at h
  refine Q.run zm132 1 (i' := 1) (ls' := [some (.int x0)]) (st' := [.int x0]) rfl ?_
  by_cases hc1 : x0 = 0
  · rw [if_pos hc1] at h
    refine Q.map (A.zT (gI_of zm132 (e := (1, 3, .ifCond .eq 8, [4])) rfl) (decide_eq_true hc1)) ?_
    refine Q.run zm132 1 (i' := 5) (ls' := [some (.int x0)]) (st' := [.int 16384]) rfl ?_
    cases h
    exact Q.ret (A.ri zm132 (show zM132.2.2.2.2.2[5]? = some (12, 1, .ireturn, []) from rfl) rfl rfl) hl
  · rw [if_neg hc1] at h
    refine Q.map (A.zF (gI_of zm132 (e := (1, 3, .ifCond .eq 8, [4])) rfl) (fun q => hc1 (of_decide_eq_true q))) ?_
    refine Q.run zm132 2 (i' := 5) (ls' := [some (.int x0)]) (st' := [.int 1048576]) rfl ?_
    cases h
    exact Q.ret (A.ri zm132 (show zM132.2.2.2.2.2[5]? = some (12, 1, .ireturn, []) from rfl) rfl rfl) hl
/-! 130 FormulaTrees$Tree.moveNode(III)V -/
set_option maxRecDepth 100000 in
theorem zm130 : zP[130]? = some zM130 := rfl
def dm130_55 (b0 : Nat) (x1 : Int32) (x4 : Int32) (s : aS) : Option (aS) :=
  if x4 = 0 then
    bu (dm58 b0 x1 s) fun s4 =>
    some s4
  else
    bu (dm101 b0 x1 s) fun s8 =>
    some s8
set_option maxRecDepth 100000 in
theorem dt130_55 {sio : Bool} {tt : Nat} {cc : Nat → Nat → Int32} {d : Nat} (hd : 3 ≤ d) {b0 : Nat} {x1 : Int32} {x4 : Int32} {x2 : Int32} {x3 : Int32} {x5 : Int32} {g6 : Option Value} {g7 : Option Value} {s : aS} (hl : Ly tt cc s) (hk_b0 : aK s b0 3) {o : aS} (h : dm130_55  b0 x1 x4 s = some o) : Q 1 sio tt cc d 130 55 [some (.ref b0), some (.int x1), some (.int x2), some (.int x3), some (.int x4), some (.int x5), g6, g7] [] s (.inl none, o) := by
  unfold dm130_55 at h
  obtain ⟨d, rfl⟩ : ∃ e, d = e + 1 := ⟨d - 1, by omega⟩
  refine Q.run zm130 1 (i' := 56) (ls' := [some (.ref b0), some (.int x1), some (.int x2), some (.int x3), some (.int x4), some (.int x5), g6, g7]) (st' := [.int x4]) rfl ?_
  by_cases hc1 : x4 = 0
  · rw [if_pos hc1] at h
    refine Q.map (A.zT (gI_of zm130 (e := (111, 3, .ifCond .eq 11, [61])) rfl) (decide_eq_true hc1)) ?_
    refine Q.run zm130 2 (i' := 63) (ls' := [some (.ref b0), some (.int x1), some (.int x2), some (.int x3), some (.int x4), some (.int x5), g6, g7]) (st' := [.int x1, .ref b0]) rfl ?_
    obtain ⟨s4, hc3, h⟩ := bu_so h
    have hq2 : Q 1 sio tt cc d 58 0 [some (.ref b0), some (.int x1)] [] s (.inl none, s4) := dt58 (by omega) hl hk_b0 hc3
    refine Q.callV (gC_vi zm130 (show zM130.2.2.2.2.2[63]? = some (124, 3, .invokevirtual 92, [0, 58, 1, 3]) from rfl) zm58 hk_b0.1 (hl.tr hk_b0).1 rfl (show aCr 1 b0 [.int x1, .ref b0] 2 = some ([some (.ref b0), some (.int x1)], []) from rfl)) hq2 ?_
    have hr5 : aK s4 b0 3 := hq2.2.1.k hk_b0
    cases h
    exact Q.ret (A.rv zm130 (show zM130.2.2.2.2.2[64]? = some (127, 1, .return_, []) from rfl) rfl) hq2.1
  · rw [if_neg hc1] at h
    refine Q.map (A.zF (gI_of zm130 (e := (111, 3, .ifCond .eq 11, [61])) rfl) (fun q => hc1 (of_decide_eq_true q))) ?_
    refine Q.run zm130 2 (i' := 59) (ls' := [some (.ref b0), some (.int x1), some (.int x2), some (.int x3), some (.int x4), some (.int x5), g6, g7]) (st' := [.int x1, .ref b0]) rfl ?_
    obtain ⟨s8, hc7, h⟩ := bu_so h
    have hq6 : Q 1 sio tt cc d 101 0 [some (.ref b0), some (.int x1)] [] s (.inl none, s8) := dt101 (by omega) hl hk_b0 hc7
    refine Q.callV (gC_vi zm130 (show zM130.2.2.2.2.2[59]? = some (116, 3, .invokevirtual 85, [0, 101, 1, 3]) from rfl) zm101 hk_b0.1 (hl.tr hk_b0).1 rfl (show aCr 1 b0 [.int x1, .ref b0] 2 = some ([some (.ref b0), some (.int x1)], []) from rfl)) hq6 ?_
    have hr9 : aK s8 b0 3 := hq6.2.1.k hk_b0
    refine Q.run zm130 1 (i' := 64) (ls' := [some (.ref b0), some (.int x1), some (.int x2), some (.int x3), some (.int x4), some (.int x5), g6, g7]) (st' := []) rfl ?_
    cases h
    exact Q.ret (A.rv zm130 (show zM130.2.2.2.2.2[64]? = some (127, 1, .return_, []) from rfl) rfl) hq6.1
def dm130_47 (k4 : Nat → Int32 → Int32 → Int32 → Int32 → Int32 → aS → Option (aS)) (b0 : Nat) (x1 : Int32) (x2 : Int32) (x3 : Int32) (x5 : Int32) (x7 : Int32) (y0 : Int32) (s : aS) : Option (aS) :=
  bu (dm60 b0 x1 x5 x7 s) fun s3 =>
  k4 b0 x1 x2 x3 y0 (x5 + 1) s3
set_option maxRecDepth 100000 in
theorem dt130_47 {sio : Bool} {tt : Nat} {cc : Nat → Nat → Int32} {d : Nat} (hd : 3 ≤ d) {k4 : Nat → Int32 → Int32 → Int32 → Int32 → Int32 → aS → Option (aS)} (hk4 : ∀ {b0 : Nat} {x1 : Int32} {x2 : Int32} {x3 : Int32} {x4 : Int32} {x5 : Int32} {g6 : Option Value} {g7 : Option Value} {s : aS}, Ly tt cc s → aK s b0 3 → ∀ {o : aS}, k4 b0 x1 x2 x3 x4 x5 s = some o → Q 1 sio tt cc d 130 4 [some (.ref b0), some (.int x1), some (.int x2), some (.int x3), some (.int x4), some (.int x5), g6, g7] [] s (.inl none, o)) {b0 : Nat} {x1 : Int32} {x2 : Int32} {x3 : Int32} {x5 : Int32} {x7 : Int32} {y0 : Int32} {x4 : Int32} {x6 : Int32} {s : aS} (hl : Ly tt cc s) (hk_b0 : aK s b0 3) {o : aS} (h : dm130_47 k4 b0 x1 x2 x3 x5 x7 y0 s = some o) : Q 1 sio tt cc d 130 47 [some (.ref b0), some (.int x1), some (.int x2), some (.int x3), some (.int x4), some (.int x5), some (.int x6), some (.int x7)] [.int y0] s (.inl none, o) := by
  unfold dm130_47 at h
  obtain ⟨d, rfl⟩ : ∃ e, d = e + 1 := ⟨d - 1, by omega⟩
  refine Q.run zm130 5 (i' := 52) (ls' := [some (.ref b0), some (.int x1), some (.int x2), some (.int x3), some (.int y0), some (.int x5), some (.int x6), some (.int x7)]) (st' := [.int x7, .int x5, .int x1, .ref b0]) rfl ?_
  obtain ⟨s3, hc2, h⟩ := bu_so h
  have hq1 : Q 1 sio tt cc d 60 0 [some (.ref b0), some (.int x1), some (.int x5), some (.int x7)] [] s (.inl none, s3) := dt60 (by omega) hl hk_b0 hc2
  refine Q.callV (gC_vi zm130 (show zM130.2.2.2.2.2[52]? = some (100, 3, .invokevirtual 51, [0, 60, 3, 3]) from rfl) zm60 hk_b0.1 (hl.tr hk_b0).1 rfl (show aCr 3 b0 [.int x7, .int x5, .int x1, .ref b0] 4 = some ([some (.ref b0), some (.int x1), some (.int x5), some (.int x7)], []) from rfl)) hq1 ?_
  have hr4 : aK s3 b0 3 := hq1.2.1.k hk_b0
  refine Q.run zm130 2 (i' := 4) (ls' := [some (.ref b0), some (.int x1), some (.int x2), some (.int x3), some (.int y0), some (.int (x5 + 1)), some (.int x6), some (.int x7)]) (st' := []) rfl ?_
  exact hk4 hq1.1 hr4 h
def dm130_46 (k4 : Nat → Int32 → Int32 → Int32 → Int32 → Int32 → aS → Option (aS)) (b0 : Nat) (x1 : Int32) (x2 : Int32) (x3 : Int32) (x5 : Int32) (x7 : Int32) (s : aS) : Option (aS) :=
  dm130_47 k4 b0 x1 x2 x3 x5 x7 0 s
set_option maxRecDepth 100000 in
theorem dt130_46 {sio : Bool} {tt : Nat} {cc : Nat → Nat → Int32} {d : Nat} (hd : 3 ≤ d) {k4 : Nat → Int32 → Int32 → Int32 → Int32 → Int32 → aS → Option (aS)} (hk4 : ∀ {b0 : Nat} {x1 : Int32} {x2 : Int32} {x3 : Int32} {x4 : Int32} {x5 : Int32} {g6 : Option Value} {g7 : Option Value} {s : aS}, Ly tt cc s → aK s b0 3 → ∀ {o : aS}, k4 b0 x1 x2 x3 x4 x5 s = some o → Q 1 sio tt cc d 130 4 [some (.ref b0), some (.int x1), some (.int x2), some (.int x3), some (.int x4), some (.int x5), g6, g7] [] s (.inl none, o)) {b0 : Nat} {x1 : Int32} {x2 : Int32} {x3 : Int32} {x5 : Int32} {x7 : Int32} {x4 : Int32} {x6 : Int32} {s : aS} (hl : Ly tt cc s) (hk_b0 : aK s b0 3) {o : aS} (h : dm130_46 k4 b0 x1 x2 x3 x5 x7 s = some o) : Q 1 sio tt cc d 130 46 [some (.ref b0), some (.int x1), some (.int x2), some (.int x3), some (.int x4), some (.int x5), some (.int x6), some (.int x7)] [] s (.inl none, o) := by
  unfold dm130_46 at h
  obtain ⟨d, rfl⟩ : ∃ e, d = e + 1 := ⟨d - 1, by omega⟩
  refine Q.run zm130 1 (i' := 47) (ls' := [some (.ref b0), some (.int x1), some (.int x2), some (.int x3), some (.int x4), some (.int x5), some (.int x6), some (.int x7)]) (st' := [.int 0]) rfl ?_
  exact dt130_47 hd hk4 hl hk_b0 h
def dm130_37 (k4 : Nat → Int32 → Int32 → Int32 → Int32 → Int32 → aS → Option (aS)) (b0 : Nat) (x1 : Int32) (x2 : Int32) (x3 : Int32) (x5 : Int32) (x6 : Int32) (x7 : Int32) (s : aS) : Option (aS) :=
  if x7 < 1 then
    dm130_46 k4 b0 x1 x2 x3 x5 x7 s
  else
    bu (dm132 x6) fun r4 =>
    if r4 < x7 then
      dm130_46 k4 b0 x1 x2 x3 x5 x7 s
    else
      dm130_47 k4 b0 x1 x2 x3 x5 x7 1 s
set_option maxRecDepth 100000 in
theorem dt130_37 {sio : Bool} {tt : Nat} {cc : Nat → Nat → Int32} {d : Nat} (hd : 3 ≤ d) {k4 : Nat → Int32 → Int32 → Int32 → Int32 → Int32 → aS → Option (aS)} (hk4 : ∀ {b0 : Nat} {x1 : Int32} {x2 : Int32} {x3 : Int32} {x4 : Int32} {x5 : Int32} {g6 : Option Value} {g7 : Option Value} {s : aS}, Ly tt cc s → aK s b0 3 → ∀ {o : aS}, k4 b0 x1 x2 x3 x4 x5 s = some o → Q 1 sio tt cc d 130 4 [some (.ref b0), some (.int x1), some (.int x2), some (.int x3), some (.int x4), some (.int x5), g6, g7] [] s (.inl none, o)) {b0 : Nat} {x1 : Int32} {x2 : Int32} {x3 : Int32} {x5 : Int32} {x6 : Int32} {x7 : Int32} {x4 : Int32} {s : aS} (hl : Ly tt cc s) (hk_b0 : aK s b0 3) {o : aS} (h : dm130_37 k4 b0 x1 x2 x3 x5 x6 x7 s = some o) : Q 1 sio tt cc d 130 37 [some (.ref b0), some (.int x1), some (.int x2), some (.int x3), some (.int x4), some (.int x5), some (.int x6), some (.int x7)] [] s (.inl none, o) := by
  unfold dm130_37 at h
  obtain ⟨d, rfl⟩ : ∃ e, d = e + 1 := ⟨d - 1, by omega⟩
  refine Q.run zm130 2 (i' := 39) (ls' := [some (.ref b0), some (.int x1), some (.int x2), some (.int x3), some (.int x4), some (.int x5), some (.int x6), some (.int x7)]) (st' := [.int 1, .int x7]) rfl ?_
  by_cases hc1 : x7 < 1
  · rw [if_pos hc1] at h
    refine Q.map (A.bT (gI_of zm130 (e := (74, 3, .if_icmp .lt 17, [46])) rfl) (decide_eq_true hc1)) ?_
    exact dt130_46 hd hk4 hl hk_b0 h
  · rw [if_neg hc1] at h
    refine Q.map (A.bF (gI_of zm130 (e := (74, 3, .if_icmp .lt 17, [46])) rfl) (fun q => hc1 (of_decide_eq_true q))) ?_
    refine Q.run zm130 2 (i' := 42) (ls' := [some (.ref b0), some (.int x1), some (.int x2), some (.int x3), some (.int x4), some (.int x5), some (.int x6), some (.int x7)]) (st' := [.int x6, .int x7]) rfl ?_
    obtain ⟨r4, hc3, h⟩ := bu_so h
    have hq2 : Q 1 sio tt cc d 132 0 [some (.int x6)] [] s (.inl (some (.int r4)), s) := dt132 (by omega) hl  hc3
    refine Q.callI (gC_st zm130 (show zM130.2.2.2.2.2[42]? = some (81, 3, .invokestatic 106, [0, 132, 1]) from rfl) zm132 (show aC 1 [.int x6, .int x7] 1 = some ([some (.int x6)], [.int x7]) from rfl)) hq2 ?_
    by_cases hc5 : r4 < x7
    · rw [if_pos hc5] at h
      refine Q.map (A.bT (gI_of zm130 (e := (84, 3, .if_icmp .gt 7, [46])) rfl) (decide_eq_true hc5)) ?_
      exact dt130_46 hd hk4 hl hk_b0 h
    · rw [if_neg hc5] at h
      refine Q.map (A.bF (gI_of zm130 (e := (84, 3, .if_icmp .gt 7, [46])) rfl) (fun q => hc5 (of_decide_eq_true q))) ?_
      refine Q.run zm130 2 (i' := 47) (ls' := [some (.ref b0), some (.int x1), some (.int x2), some (.int x3), some (.int x4), some (.int x5), some (.int x6), some (.int x7)]) (st' := [.int 1]) rfl ?_
      exact dt130_47 hd hk4 hl hk_b0 h
def dm130_35 (k4 : Nat → Int32 → Int32 → Int32 → Int32 → Int32 → aS → Option (aS)) (b0 : Nat) (x1 : Int32) (x2 : Int32) (x3 : Int32) (x5 : Int32) (x6 : Int32) (y0 : Int32) (y1 : Int32) (s : aS) : Option (aS) :=
  dm130_37 k4 b0 x1 x2 x3 x5 x6 (y0 + y1) s
set_option maxRecDepth 100000 in
theorem dt130_35 {sio : Bool} {tt : Nat} {cc : Nat → Nat → Int32} {d : Nat} (hd : 3 ≤ d) {k4 : Nat → Int32 → Int32 → Int32 → Int32 → Int32 → aS → Option (aS)} (hk4 : ∀ {b0 : Nat} {x1 : Int32} {x2 : Int32} {x3 : Int32} {x4 : Int32} {x5 : Int32} {g6 : Option Value} {g7 : Option Value} {s : aS}, Ly tt cc s → aK s b0 3 → ∀ {o : aS}, k4 b0 x1 x2 x3 x4 x5 s = some o → Q 1 sio tt cc d 130 4 [some (.ref b0), some (.int x1), some (.int x2), some (.int x3), some (.int x4), some (.int x5), g6, g7] [] s (.inl none, o)) {b0 : Nat} {x1 : Int32} {x2 : Int32} {x3 : Int32} {x5 : Int32} {x6 : Int32} {y0 : Int32} {y1 : Int32} {x4 : Int32} {x7 : Int32} {s : aS} (hl : Ly tt cc s) (hk_b0 : aK s b0 3) {o : aS} (h : dm130_35 k4 b0 x1 x2 x3 x5 x6 y0 y1 s = some o) : Q 1 sio tt cc d 130 35 [some (.ref b0), some (.int x1), some (.int x2), some (.int x3), some (.int x4), some (.int x5), some (.int x6), some (.int x7)] [.int y1, .int y0] s (.inl none, o) := by
  unfold dm130_35 at h
  obtain ⟨d, rfl⟩ : ∃ e, d = e + 1 := ⟨d - 1, by omega⟩
  refine Q.run zm130 2 (i' := 37) (ls' := [some (.ref b0), some (.int x1), some (.int x2), some (.int x3), some (.int x4), some (.int x5), some (.int x6), some (.int (y0 + y1))]) (st' := []) rfl ?_
  exact dt130_37 hd hk4 hl hk_b0 h
def dm130_18 (k4 : Nat → Int32 → Int32 → Int32 → Int32 → Int32 → aS → Option (aS)) (b0 : Nat) (x1 : Int32) (x2 : Int32) (x3 : Int32) (x5 : Int32) (y0 : Int32) (s : aS) : Option (aS) :=
  bu (dm57 b0 x1 x5 s) fun r3 =>
  bu (dm131 b0 x1 x5 s) fun r6 =>
  if r6 = 0 then
    if y0 = 0 then
      dm130_35 k4 b0 x1 x2 x3 x5 y0 r3 x3 s
    else
      dm130_35 k4 b0 x1 x2 x3 x5 y0 r3 x2 s
  else
    dm130_37 k4 b0 x1 x2 x3 x5 y0 r3 s
set_option maxRecDepth 100000 in
theorem dt130_18 {sio : Bool} {tt : Nat} {cc : Nat → Nat → Int32} {d : Nat} (hd : 3 ≤ d) {k4 : Nat → Int32 → Int32 → Int32 → Int32 → Int32 → aS → Option (aS)} (hk4 : ∀ {b0 : Nat} {x1 : Int32} {x2 : Int32} {x3 : Int32} {x4 : Int32} {x5 : Int32} {g6 : Option Value} {g7 : Option Value} {s : aS}, Ly tt cc s → aK s b0 3 → ∀ {o : aS}, k4 b0 x1 x2 x3 x4 x5 s = some o → Q 1 sio tt cc d 130 4 [some (.ref b0), some (.int x1), some (.int x2), some (.int x3), some (.int x4), some (.int x5), g6, g7] [] s (.inl none, o)) {b0 : Nat} {x1 : Int32} {x2 : Int32} {x3 : Int32} {x5 : Int32} {y0 : Int32} {x4 : Int32} {g6 : Option Value} {g7 : Option Value} {s : aS} (hl : Ly tt cc s) (hk_b0 : aK s b0 3) {o : aS} (h : dm130_18 k4 b0 x1 x2 x3 x5 y0 s = some o) : Q 1 sio tt cc d 130 18 [some (.ref b0), some (.int x1), some (.int x2), some (.int x3), some (.int x4), some (.int x5), g6, g7] [.int y0] s (.inl none, o) := by
  unfold dm130_18 at h
  obtain ⟨d, rfl⟩ : ∃ e, d = e + 1 := ⟨d - 1, by omega⟩
  refine Q.run zm130 4 (i' := 22) (ls' := [some (.ref b0), some (.int x1), some (.int x2), some (.int x3), some (.int x4), some (.int x5), some (.int y0), g7]) (st' := [.int x5, .int x1, .ref b0]) rfl ?_
  obtain ⟨r3, hc2, h⟩ := bu_so h
  have hq1 : Q 1 sio tt cc d 57 0 [some (.ref b0), some (.int x1), some (.int x5), none] [] s (.inl (some (.int r3)), s) := dt57 (by omega) hl hk_b0 hc2
  refine Q.callI (gC_vi zm130 (show zM130.2.2.2.2.2[22]? = some (41, 3, .invokevirtual 28, [0, 57, 2, 3]) from rfl) zm57 hk_b0.1 (hl.tr hk_b0).1 rfl (show aCr 2 b0 [.int x5, .int x1, .ref b0] 4 = some ([some (.ref b0), some (.int x1), some (.int x5), none], []) from rfl)) hq1 ?_
  refine Q.run zm130 4 (i' := 27) (ls' := [some (.ref b0), some (.int x1), some (.int x2), some (.int x3), some (.int x4), some (.int x5), some (.int y0), some (.int r3)]) (st' := [.int x5, .int x1, .ref b0]) rfl ?_
  obtain ⟨r6, hc5, h⟩ := bu_so h
  have hq4 : Q 1 sio tt cc d 131 0 [some (.ref b0), some (.int x1), some (.int x5), none, none, none] [] s (.inl (some (.int r6)), s) := dt131 (by omega) hl hk_b0 hc5
  refine Q.callI (gC_vi zm130 (show zM130.2.2.2.2.2[27]? = some (50, 3, .invokevirtual 102, [0, 131, 2, 3]) from rfl) zm131 hk_b0.1 (hl.tr hk_b0).1 rfl (show aCr 2 b0 [.int x5, .int x1, .ref b0] 6 = some ([some (.ref b0), some (.int x1), some (.int x5), none, none, none], []) from rfl)) hq4 ?_
  by_cases hc7 : r6 = 0
  · rw [if_pos hc7] at h
    refine Q.map (A.zF (gI_of zm130 (e := (53, 3, .ifCond .ne 18, [37])) rfl) (fun q => of_decide_eq_true q hc7)) ?_
    refine Q.run zm130 2 (i' := 31) (ls' := [some (.ref b0), some (.int x1), some (.int x2), some (.int x3), some (.int x4), some (.int x5), some (.int y0), some (.int r3)]) (st' := [.int y0, .int r3]) rfl ?_
    by_cases hc8 : y0 = 0
    · rw [if_pos hc8] at h
      refine Q.map (A.zT (gI_of zm130 (e := (60, 3, .ifCond .eq 7, [34])) rfl) (decide_eq_true hc8)) ?_
      refine Q.run zm130 1 (i' := 35) (ls' := [some (.ref b0), some (.int x1), some (.int x2), some (.int x3), some (.int x4), some (.int x5), some (.int y0), some (.int r3)]) (st' := [.int x3, .int r3]) rfl ?_
      exact dt130_35 hd hk4 hl hk_b0 h
    · rw [if_neg hc8] at h
      refine Q.map (A.zF (gI_of zm130 (e := (60, 3, .ifCond .eq 7, [34])) rfl) (fun q => hc8 (of_decide_eq_true q))) ?_
      refine Q.run zm130 2 (i' := 35) (ls' := [some (.ref b0), some (.int x1), some (.int x2), some (.int x3), some (.int x4), some (.int x5), some (.int y0), some (.int r3)]) (st' := [.int x2, .int r3]) rfl ?_
      exact dt130_35 hd hk4 hl hk_b0 h
  · rw [if_neg hc7] at h
    refine Q.map (A.zT (gI_of zm130 (e := (53, 3, .ifCond .ne 18, [37])) rfl) (decide_eq_true hc7)) ?_
    exact dt130_37 hd hk4 hl hk_b0 h
def dm130_15 (k4 : Nat → Int32 → Int32 → Int32 → Int32 → Int32 → aS → Option (aS)) (b0 : Nat) (x1 : Int32) (x2 : Int32) (x3 : Int32) (x5 : Int32) (s : aS) : Option (aS) :=
  dm130_18 k4 b0 x1 x2 x3 x5 1 s
set_option maxRecDepth 100000 in
theorem dt130_15 {sio : Bool} {tt : Nat} {cc : Nat → Nat → Int32} {d : Nat} (hd : 3 ≤ d) {k4 : Nat → Int32 → Int32 → Int32 → Int32 → Int32 → aS → Option (aS)} (hk4 : ∀ {b0 : Nat} {x1 : Int32} {x2 : Int32} {x3 : Int32} {x4 : Int32} {x5 : Int32} {g6 : Option Value} {g7 : Option Value} {s : aS}, Ly tt cc s → aK s b0 3 → ∀ {o : aS}, k4 b0 x1 x2 x3 x4 x5 s = some o → Q 1 sio tt cc d 130 4 [some (.ref b0), some (.int x1), some (.int x2), some (.int x3), some (.int x4), some (.int x5), g6, g7] [] s (.inl none, o)) {b0 : Nat} {x1 : Int32} {x2 : Int32} {x3 : Int32} {x5 : Int32} {x4 : Int32} {g6 : Option Value} {g7 : Option Value} {s : aS} (hl : Ly tt cc s) (hk_b0 : aK s b0 3) {o : aS} (h : dm130_15 k4 b0 x1 x2 x3 x5 s = some o) : Q 1 sio tt cc d 130 15 [some (.ref b0), some (.int x1), some (.int x2), some (.int x3), some (.int x4), some (.int x5), g6, g7] [] s (.inl none, o) := by
  unfold dm130_15 at h
  obtain ⟨d, rfl⟩ : ∃ e, d = e + 1 := ⟨d - 1, by omega⟩
  refine Q.run zm130 2 (i' := 18) (ls' := [some (.ref b0), some (.int x1), some (.int x2), some (.int x3), some (.int x4), some (.int x5), g6, g7]) (st' := [.int 1]) rfl ?_
  exact dt130_18 hd hk4 hl hk_b0 h
def dm130_4 : Nat → Nat → Int32 → Int32 → Int32 → Int32 → Int32 → aS → Option (aS)
  | 0, _, _, _, _, _, _, _ => none
  | n + 1, b0, x1, x2, x3, x4, x5, s =>
    if 6 < x5 then
      dm130_55 b0 x1 x4 s
    else
      if x4 = 0 then
        dm130_55 b0 x1 x4 s
      else
        if x5 = 3 then
          dm130_15 (dm130_4 n) b0 x1 x2 x3 x5 s
        else
          if x5 = 5 then
            dm130_15 (dm130_4 n) b0 x1 x2 x3 x5 s
          else
            dm130_18 (dm130_4 n) b0 x1 x2 x3 x5 0 s
set_option maxRecDepth 100000 in
theorem dt130_4 {sio : Bool} {tt : Nat} {cc : Nat → Nat → Int32} {d : Nat} (hd : 3 ≤ d) : ∀ (n : Nat) {b0 : Nat} {x1 : Int32} {x2 : Int32} {x3 : Int32} {x4 : Int32} {x5 : Int32} {g6 : Option Value} {g7 : Option Value} {s : aS} (_ : Ly tt cc s) (_ : aK s b0 3) {o : aS} (_ : dm130_4  n b0 x1 x2 x3 x4 x5 s = some o), Q 1 sio tt cc d 130 4 [some (.ref b0), some (.int x1), some (.int x2), some (.int x3), some (.int x4), some (.int x5), g6, g7] [] s (.inl none, o) := by
  obtain ⟨d, rfl⟩ : ∃ e, d = e + 1 := ⟨d - 1, by omega⟩
  intro n
  induction n with
  | zero => intro b0 x1 x2 x3 x4 x5 g6 g7 s hl hk_b0 o h; rw [dm130_4] at h; cases h
  | succ n ih =>
    intro b0 x1 x2 x3 x4 x5 g6 g7 s hl hk_b0 o h
    rw [dm130_4] at h
    refine Q.run zm130 2 (i' := 6) (ls' := [some (.ref b0), some (.int x1), some (.int x2), some (.int x3), some (.int x4), some (.int x5), g6, g7]) (st' := [.int 6, .int x5]) rfl ?_
    by_cases hc1 : 6 < x5
    · rw [if_pos hc1] at h
      refine Q.map (A.bT (gI_of zm130 (e := (10, 3, .if_icmp .gt 99, [55])) rfl) (decide_eq_true hc1)) ?_
      exact dt130_55 hd hl hk_b0 h
    · rw [if_neg hc1] at h
      refine Q.map (A.bF (gI_of zm130 (e := (10, 3, .if_icmp .gt 99, [55])) rfl) (fun q => hc1 (of_decide_eq_true q))) ?_
      refine Q.run zm130 1 (i' := 8) (ls' := [some (.ref b0), some (.int x1), some (.int x2), some (.int x3), some (.int x4), some (.int x5), g6, g7]) (st' := [.int x4]) rfl ?_
      by_cases hc2 : x4 = 0
      · rw [if_pos hc2] at h
        refine Q.map (A.zT (gI_of zm130 (e := (15, 3, .ifCond .eq 94, [55])) rfl) (decide_eq_true hc2)) ?_
        exact dt130_55 hd hl hk_b0 h
      · rw [if_neg hc2] at h
        refine Q.map (A.zF (gI_of zm130 (e := (15, 3, .ifCond .eq 94, [55])) rfl) (fun q => hc2 (of_decide_eq_true q))) ?_
        refine Q.run zm130 2 (i' := 11) (ls' := [some (.ref b0), some (.int x1), some (.int x2), some (.int x3), some (.int x4), some (.int x5), g6, g7]) (st' := [.int 3, .int x5]) rfl ?_
        by_cases hc3 : x5 = 3
        · rw [if_pos hc3] at h
          refine Q.map (A.bT (gI_of zm130 (e := (21, 3, .if_icmp .eq 9, [15])) rfl) (decide_eq_true hc3)) ?_
          exact dt130_15 hd ih hl hk_b0 h
        · rw [if_neg hc3] at h
          refine Q.map (A.bF (gI_of zm130 (e := (21, 3, .if_icmp .eq 9, [15])) rfl) (fun q => hc3 (of_decide_eq_true q))) ?_
          refine Q.run zm130 2 (i' := 14) (ls' := [some (.ref b0), some (.int x1), some (.int x2), some (.int x3), some (.int x4), some (.int x5), g6, g7]) (st' := [.int 5, .int x5]) rfl ?_
          by_cases hc4 : x5 = 5
          · rw [if_pos hc4] at h
            refine Q.map (A.bF (gI_of zm130 (e := (27, 3, .if_icmp .ne 7, [17])) rfl) (fun q => of_decide_eq_true q hc4)) ?_
            exact dt130_15 hd ih hl hk_b0 h
          · rw [if_neg hc4] at h
            refine Q.map (A.bT (gI_of zm130 (e := (27, 3, .if_icmp .ne 7, [17])) rfl) (decide_eq_true hc4)) ?_
            refine Q.run zm130 1 (i' := 18) (ls' := [some (.ref b0), some (.int x1), some (.int x2), some (.int x3), some (.int x4), some (.int x5), g6, g7]) (st' := [.int 0]) rfl ?_
            exact dt130_18 hd ih hl hk_b0 h
def dm130 (b0 : Nat) (x1 : Int32) (x2 : Int32) (x3 : Int32) (s : aS) : Option (aS) :=
  dm130_4 5000 b0 x1 x2 x3 1 3 s
set_option maxRecDepth 100000 in
theorem dt130 {sio : Bool} {tt : Nat} {cc : Nat → Nat → Int32} {d : Nat} (hd : 3 ≤ d) {b0 : Nat} {x1 : Int32} {x2 : Int32} {x3 : Int32} {s : aS} (hl : Ly tt cc s) (hk_b0 : aK s b0 3) {o : aS} (h : dm130  b0 x1 x2 x3 s = some o) : Q 1 sio tt cc d 130 0 [some (.ref b0), some (.int x1), some (.int x2), some (.int x3), none, none, none, none] [] s (.inl none, o) := by
  unfold dm130 at h
  obtain ⟨d, rfl⟩ : ∃ e, d = e + 1 := ⟨d - 1, by omega⟩
  refine Q.run zm130 4 (i' := 4) (ls' := [some (.ref b0), some (.int x1), some (.int x2), some (.int x3), some (.int 1), some (.int 3), none, none]) (st' := []) rfl ?_
  exact dt130_4 hd _ hl hk_b0 h
/-! 128 FormulaTrees$Tree.moveBy(II)V -/
set_option maxRecDepth 100000 in
theorem zm128 : zP[128]? = some zM128 := rfl
def dm128_15 (k2 : Nat → Int32 → Int32 → Int32 → aS → Option (aS)) (b0 : Nat) (x1 : Int32) (x2 : Int32) (x3 : Int32) (s : aS) : Option (aS) :=
  k2 b0 x1 x2 (x3 + 1) s
set_option maxRecDepth 100000 in
theorem dt128_15 {sio : Bool} {tt : Nat} {cc : Nat → Nat → Int32} {d : Nat} (hd : 4 ≤ d) {k2 : Nat → Int32 → Int32 → Int32 → aS → Option (aS)} (hk2 : ∀ {b0 : Nat} {x1 : Int32} {x2 : Int32} {x3 : Int32} {s : aS}, Ly tt cc s → aK s b0 3 → ∀ {o : aS}, k2 b0 x1 x2 x3 s = some o → Q 1 sio tt cc d 128 2 [some (.ref b0), some (.int x1), some (.int x2), some (.int x3)] [] s (.inl none, o)) {b0 : Nat} {x1 : Int32} {x2 : Int32} {x3 : Int32} {s : aS} (hl : Ly tt cc s) (hk_b0 : aK s b0 3) {o : aS} (h : dm128_15 k2 b0 x1 x2 x3 s = some o) : Q 1 sio tt cc d 128 15 [some (.ref b0), some (.int x1), some (.int x2), some (.int x3)] [] s (.inl none, o) := by
  unfold dm128_15 at h
  obtain ⟨d, rfl⟩ : ∃ e, d = e + 1 := ⟨d - 1, by omega⟩
  refine Q.run zm128 2 (i' := 2) (ls' := [some (.ref b0), some (.int x1), some (.int x2), some (.int (x3 + 1))]) (st' := []) rfl ?_
  exact hk2 hl hk_b0 h
def dm128_2 : Nat → Nat → Int32 → Int32 → Int32 → aS → Option (aS)
  | 0, _, _, _, _, _ => none
  | n + 1, b0, x1, x2, x3, s =>
    if (sI s b0 2) ≤ x3 then
      some s
    else
      bu (dm129 b0 x3 s) fun r4 =>
      if r4 = 0 then
        dm128_15 (dm128_2 n) b0 x1 x2 x3 s
      else
        bu (dm130 b0 x3 x1 x2 s) fun s8 =>
        dm128_15 (dm128_2 n) b0 x1 x2 x3 s8
set_option maxRecDepth 100000 in
theorem dt128_2 {sio : Bool} {tt : Nat} {cc : Nat → Nat → Int32} {d : Nat} (hd : 4 ≤ d) : ∀ (n : Nat) {b0 : Nat} {x1 : Int32} {x2 : Int32} {x3 : Int32} {s : aS} (_ : Ly tt cc s) (_ : aK s b0 3) {o : aS} (_ : dm128_2  n b0 x1 x2 x3 s = some o), Q 1 sio tt cc d 128 2 [some (.ref b0), some (.int x1), some (.int x2), some (.int x3)] [] s (.inl none, o) := by
  obtain ⟨d, rfl⟩ : ∃ e, d = e + 1 := ⟨d - 1, by omega⟩
  intro n
  induction n with
  | zero => intro b0 x1 x2 x3 s hl hk_b0 o h; rw [dm128_2] at h; cases h
  | succ n ih =>
    intro b0 x1 x2 x3 s hl hk_b0 o h
    rw [dm128_2] at h
    refine Q.run zm128 2 (i' := 4) (ls' := [some (.ref b0), some (.int x1), some (.int x2), some (.int x3)]) (st' := [.ref b0, .int x3]) rfl ?_
    refine Q.map (A.gf (gI_of zm128 (e := (4, 3, .getfield 24, [3, 2])) rfl) hk_b0.1 (hl.tr hk_b0).1 (by decide) rfl) ?_
    by_cases hc1 : (sI s b0 2) ≤ x3
    · rw [if_pos hc1] at h
      refine Q.map (A.bT (gI_of zm128 (e := (7, 3, .if_icmp .ge 24, [17])) rfl) (decide_eq_true hc1)) ?_
      cases h
      exact Q.ret (A.rv zm128 (show zM128.2.2.2.2.2[17]? = some (31, 1, .return_, []) from rfl) rfl) hl
    · rw [if_neg hc1] at h
      refine Q.map (A.bF (gI_of zm128 (e := (7, 3, .if_icmp .ge 24, [17])) rfl) (fun q => hc1 (of_decide_eq_true q))) ?_
      refine Q.run zm128 2 (i' := 8) (ls' := [some (.ref b0), some (.int x1), some (.int x2), some (.int x3)]) (st' := [.int x3, .ref b0]) rfl ?_
      obtain ⟨r4, hc3, h⟩ := bu_so h
      have hq2 : Q 1 sio tt cc d 129 0 [some (.ref b0), some (.int x3)] [] s (.inl (some (.int r4)), s) := dt129 (by omega) hl hk_b0 hc3
      refine Q.callI (gC_vi zm128 (show zM128.2.2.2.2.2[8]? = some (12, 3, .invokevirtual 95, [0, 129, 1, 3]) from rfl) zm129 hk_b0.1 (hl.tr hk_b0).1 rfl (show aCr 1 b0 [.int x3, .ref b0] 2 = some ([some (.ref b0), some (.int x3)], []) from rfl)) hq2 ?_
      by_cases hc5 : r4 = 0
      · rw [if_pos hc5] at h
        refine Q.map (A.zT (gI_of zm128 (e := (15, 3, .ifCond .eq 10, [15])) rfl) (decide_eq_true hc5)) ?_
        exact dt128_15 hd ih hl hk_b0 h
      · rw [if_neg hc5] at h
        refine Q.map (A.zF (gI_of zm128 (e := (15, 3, .ifCond .eq 10, [15])) rfl) (fun q => hc5 (of_decide_eq_true q))) ?_
        refine Q.run zm128 4 (i' := 14) (ls' := [some (.ref b0), some (.int x1), some (.int x2), some (.int x3)]) (st' := [.int x2, .int x1, .int x3, .ref b0]) rfl ?_
        obtain ⟨s8, hc7, h⟩ := bu_so h
        have hq6 : Q 1 sio tt cc d 130 0 [some (.ref b0), some (.int x3), some (.int x1), some (.int x2), none, none, none, none] [] s (.inl none, s8) := dt130 (by omega) hl hk_b0 hc7
        refine Q.callV (gC_vi zm128 (show zM128.2.2.2.2.2[14]? = some (22, 3, .invokevirtual 99, [0, 130, 3, 3]) from rfl) zm130 hk_b0.1 (hl.tr hk_b0).1 rfl (show aCr 3 b0 [.int x2, .int x1, .int x3, .ref b0] 8 = some ([some (.ref b0), some (.int x3), some (.int x1), some (.int x2), none, none, none, none], []) from rfl)) hq6 ?_
        have hr9 : aK s8 b0 3 := hq6.2.1.k hk_b0
        exact dt128_15 hd ih hq6.1 hr9 h
def dm128 (b0 : Nat) (x1 : Int32) (x2 : Int32) (s : aS) : Option (aS) :=
  dm128_2 5000 b0 x1 x2 0 s
set_option maxRecDepth 100000 in
theorem dt128 {sio : Bool} {tt : Nat} {cc : Nat → Nat → Int32} {d : Nat} (hd : 4 ≤ d) {b0 : Nat} {x1 : Int32} {x2 : Int32} {s : aS} (hl : Ly tt cc s) (hk_b0 : aK s b0 3) {o : aS} (h : dm128  b0 x1 x2 s = some o) : Q 1 sio tt cc d 128 0 [some (.ref b0), some (.int x1), some (.int x2), none] [] s (.inl none, o) := by
  unfold dm128 at h
  obtain ⟨d, rfl⟩ : ∃ e, d = e + 1 := ⟨d - 1, by omega⟩
  refine Q.run zm128 2 (i' := 2) (ls' := [some (.ref b0), some (.int x1), some (.int x2), some (.int 0)]) (st' := []) rfl ?_
  exact dt128_2 hd _ hl hk_b0 h
/-! 125 FormulaTrees.move(IIIII)V -/
set_option maxRecDepth 100000 in
theorem zm125 : zP[125]? = some zM125 := rfl
def dm125_52 (x2 : Int32) (x3 : Int32) (x4 : Int32) (x5 : Int32) (b7 : Nat) (s : aS) : Option (xZ × aS) :=
  bu (dm128 b7 x2 x3 s) fun s3 =>
  if aB x5 8 then
    nx (wI s3 101 (jN x5) x4) fun s6 =>
    some (.inl none, s6)
  else none
set_option maxRecDepth 100000 in
theorem dt125_52 {sio : Bool} {tt : Nat} {cc : Nat → Nat → Int32} {d : Nat} (hd : 9 ≤ d) {x2 : Int32} {x3 : Int32} {x4 : Int32} {x5 : Int32} {b7 : Nat} {x1 : Int32} {b6 : Nat} {s : aS} (hl : Ly tt cc s) (hk_b7 : aK s b7 3) {o : xZ × aS} (h : dm125_52  x2 x3 x4 x5 b7 s = some o) : Q 1 sio tt cc d 125 52 [some (.ref 78), some (.int x1), some (.int x2), some (.int x3), some (.int x4), some (.int x5), some (.ref b6), some (.ref b7)] [] s o := by
  unfold dm125_52 at h
  obtain ⟨d, rfl⟩ : ∃ e, d = e + 1 := ⟨d - 1, by omega⟩
  refine Q.run zm125 3 (i' := 55) (ls' := [some (.ref 78), some (.int x1), some (.int x2), some (.int x3), some (.int x4), some (.int x5), some (.ref b6), some (.ref b7)]) (st' := [.int x3, .int x2, .ref b7]) rfl ?_
  obtain ⟨s3, hc2, h⟩ := bu_so h
  have hq1 : Q 1 sio tt cc d 128 0 [some (.ref b7), some (.int x2), some (.int x3), none] [] s (.inl none, s3) := dt128 (by omega) hl hk_b7 hc2
  refine Q.callV (gC_vi zm125 (show zM125.2.2.2.2.2[55]? = some (115, 3, .invokevirtual 143, [0, 128, 2, 3]) from rfl) zm128 hk_b7.1 (hl.tr hk_b7).1 rfl (show aCr 2 b7 [.int x3, .int x2, .ref b7] 4 = some ([some (.ref b7), some (.int x2), some (.int x3), none], []) from rfl)) hq1 ?_
  have hr4 : aK s3 b7 3 := hq1.2.1.k hk_b7
  refine Q.run zm125 1 (i' := 57) (ls' := [some (.ref 78), some (.int x1), some (.int x2), some (.int x3), some (.int x4), some (.int x5), some (.ref b6), some (.ref b7)]) (st' := [.ref 78]) rfl ?_
  refine Q.map (A.gf (gI_of zm125 (e := (119, 3, .getfield 31, [0, 3])) rfl) (hq1.1.lt (a := 78) (by decide)) (hq1.1.T (a := 78) (p := (0, 7)) 0 rfl rfl) (by decide) (hq1.1.R 3 rfl)) ?_
  refine Q.run zm125 2 (i' := 60) (ls' := [some (.ref 78), some (.int x1), some (.int x2), some (.int x3), some (.int x4), some (.int x5), some (.ref b6), some (.ref b7)]) (st' := [.int x4, .int x5, .ref 101]) rfl ?_
  obtain ⟨hc5, h⟩ := ite_so h
  obtain ⟨s6, hs7, h⟩ := nx_so h
  refine Q.is hs7 rfl (gI_of zm125 (e := (126, 1, .iastore, [])) rfl) (hq1.1.lt (a := 101) (by decide)) (by decide) (hq1.1.T (a := 101) (p := (100, 8)) 23 rfl rfl) hc5 ?_
  have hl8 : Ly tt cc s6 := by rw [hs7]; exact hq1.1.wId (by decide)
  have hr9 : aK s6 b7 3 := by rw [hs7]; exact hr4
  cases h
  exact Q.ret (A.rv zm125 (show zM125.2.2.2.2.2[61]? = some (127, 1, .return_, []) from rfl) rfl) hl8
def dm125_25 (s : aS) : Option (xZ × aS) :=
  some (.inr 0, nw s 80 0)
set_option maxRecDepth 100000 in
theorem dt125_25 {sio : Bool} {tt : Nat} {cc : Nat → Nat → Int32} {d : Nat} (hd : 9 ≤ d) {x1 : Int32} {x2 : Int32} {x3 : Int32} {x4 : Int32} {x5 : Int32} {b6 : Nat} {s : aS} (hl : Ly tt cc s) {o : xZ × aS} (h : dm125_25  s = some o) : Q 1 sio tt cc d 125 25 [some (.ref 78), some (.int x1), some (.int x2), some (.int x3), some (.int x4), some (.int x5), some (.ref b6), none] [] s o := by
  unfold dm125_25 at h
  obtain ⟨d, rfl⟩ : ∃ e, d = e + 1 := ⟨d - 1, by omega⟩
  cases h
  exact Q.t zm125 (show zM125.2.2.2.2.2[25]? = some (56, 3, .new 58, [200]) from rfl) rfl rfl hl.gL (by omega) hl
def dm125_14 (s : aS) : Option (xZ × aS) :=
  some (.inr 2, nw s 82 0)
set_option maxRecDepth 100000 in
theorem dt125_14 {sio : Bool} {tt : Nat} {cc : Nat → Nat → Int32} {d : Nat} (hd : 9 ≤ d) {x1 : Int32} {x2 : Int32} {x3 : Int32} {x4 : Int32} {x5 : Int32} {g6 : Option Value} {s : aS} (hl : Ly tt cc s) {o : xZ × aS} (h : dm125_14  s = some o) : Q 1 sio tt cc d 125 14 [some (.ref 78), some (.int x1), some (.int x2), some (.int x3), some (.int x4), some (.int x5), g6, none] [] s o := by
  unfold dm125_14 at h
  obtain ⟨d, rfl⟩ : ∃ e, d = e + 1 := ⟨d - 1, by omega⟩
  cases h
  exact Q.t zm125 (show zM125.2.2.2.2.2[14]? = some (32, 3, .new 100, [202]) from rfl) rfl rfl hl.gL (by omega) hl
def dm125_46 (x1 : Int32) (x2 : Int32) (x3 : Int32) (x4 : Int32) (x5 : Int32) (b6 : Nat) (b7 : Nat) (s : aS) : Option (xZ × aS) :=
  if x5 = x1 then
    dm125_52 x2 x3 x4 x5 b7 s
  else
    bu (dm127 b7 b6 s) fun s4 =>
    dm125_52 x2 x3 x4 x5 b7 s4
set_option maxRecDepth 100000 in
theorem dt125_46 {sio : Bool} {tt : Nat} {cc : Nat → Nat → Int32} {d : Nat} (hd : 9 ≤ d) {x1 : Int32} {x2 : Int32} {x3 : Int32} {x4 : Int32} {x5 : Int32} {b6 : Nat} {b7 : Nat} {s : aS} (hl : Ly tt cc s) (hk_b6 : aK s b6 3) (hk_b7 : aK s b7 3) {o : xZ × aS} (h : dm125_46  x1 x2 x3 x4 x5 b6 b7 s = some o) : Q 1 sio tt cc d 125 46 [some (.ref 78), some (.int x1), some (.int x2), some (.int x3), some (.int x4), some (.int x5), some (.ref b6), some (.ref b7)] [] s o := by
  unfold dm125_46 at h
  obtain ⟨d, rfl⟩ : ∃ e, d = e + 1 := ⟨d - 1, by omega⟩
  refine Q.run zm125 2 (i' := 48) (ls' := [some (.ref 78), some (.int x1), some (.int x2), some (.int x3), some (.int x4), some (.int x5), some (.ref b6), some (.ref b7)]) (st' := [.int x1, .int x5]) rfl ?_
  by_cases hc1 : x5 = x1
  · rw [if_pos hc1] at h
    refine Q.map (A.bT (gI_of zm125 (e := (101, 3, .if_icmp .eq 10, [52])) rfl) (decide_eq_true hc1)) ?_
    exact dt125_52 hd hl hk_b7 h
  · rw [if_neg hc1] at h
    refine Q.map (A.bF (gI_of zm125 (e := (101, 3, .if_icmp .eq 10, [52])) rfl) (fun q => hc1 (of_decide_eq_true q))) ?_
    refine Q.run zm125 2 (i' := 51) (ls' := [some (.ref 78), some (.int x1), some (.int x2), some (.int x3), some (.int x4), some (.int x5), some (.ref b6), some (.ref b7)]) (st' := [.ref b6, .ref b7]) rfl ?_
    obtain ⟨s4, hc3, h⟩ := bu_so h
    have hq2 : Q 1 sio tt cc d 127 0 [some (.ref b7), some (.ref b6)] [] s (.inl none, s4) := dt127 (by omega) hl hk_b7 hk_b6 hc3
    refine Q.callV (gC_vi zm125 (show zM125.2.2.2.2.2[51]? = some (108, 3, .invokevirtual 139, [0, 127, 1, 3]) from rfl) zm127 hk_b7.1 (hl.tr hk_b7).1 rfl (show aCr 1 b7 [.ref b6, .ref b7] 2 = some ([some (.ref b7), some (.ref b6)], []) from rfl)) hq2 ?_
    have hr5 : aK s4 b6 3 := hq2.2.1.k hk_b6
    have hr6 : aK s4 b7 3 := hq2.2.1.k hk_b7
    exact dt125_52 hd hq2.1 hr6 h
def dm125 (x1 : Int32) (x2 : Int32) (x3 : Int32) (x4 : Int32) (x5 : Int32) (s : aS) : Option (xZ × aS) :=
  bu (dm54 x1 s) fun r3 =>
  vN r3 (
    bu (dm55 x5) fun r9 =>
    if r9 = 0 then
      dm125_14 s
    else
      dm125_14 s
  ) fun b5 =>
    if aK s b5 3 then
      bu (dm55 x5) fun r13 =>
      if r13 = 0 then
        dm125_14 s
      else
        bu (dm40 x4 s) fun r17 =>
        if r17 = 0 then
          dm125_14 s
        else
          bu (dm126 x2) fun r21 =>
          if r21 = 0 then
            dm125_25 s
          else
            bu (dm126 x3) fun r25 =>
            if r25 = 0 then
              dm125_25 s
            else
              if aB x5 8 then
                vN (sR s 100 (jN x5)) (
                  nx (nTree s) fun s31 => nx (sL s) fun b34 =>
                  if aB x5 8 then
                    nx (wR s31 100 (jN x5) (.ref b34)) fun s40 =>
                    dm125_46 x1 x2 x3 x4 x5 b5 b34 s40
                  else none
                ) fun b29 =>
                  if aK s b29 3 then
                    dm125_46 x1 x2 x3 x4 x5 b5 b29 s
                  else none
              else none
    else none
set_option maxRecDepth 100000 in
theorem dt125 {sio : Bool} {tt : Nat} {cc : Nat → Nat → Int32} {d : Nat} (hd : 9 ≤ d) {x1 : Int32} {x2 : Int32} {x3 : Int32} {x4 : Int32} {x5 : Int32} {s : aS} (hl : Ly tt cc s) {o : xZ × aS} (h : dm125  x1 x2 x3 x4 x5 s = some o) : Q 1 sio tt cc d 125 0 [some (.ref 78), some (.int x1), some (.int x2), some (.int x3), some (.int x4), some (.int x5), none, none] [] s o := by
  unfold dm125 at h
  obtain ⟨d, rfl⟩ : ∃ e, d = e + 1 := ⟨d - 1, by omega⟩
  refine Q.run zm125 2 (i' := 2) (ls' := [some (.ref 78), some (.int x1), some (.int x2), some (.int x3), some (.int x4), some (.int x5), none, none]) (st' := [.int x1, .ref 78]) rfl ?_
  obtain ⟨r3, hc2, h⟩ := bu_so h
  have hq1 : Q 1 sio tt cc d 54 0 [some (.ref 78), some (.int x1)] [] s (.inl (some r3), s) := dt54 (by omega) hl  hc2
  rcases vN_so h with ⟨hv4, h9⟩ | ⟨b5, hv4, h9⟩
  · clear h
    subst hv4
    have h := h9
    refine Q.callR (gC_vi zm125 (show zM125.2.2.2.2.2[2]? = some (2, 3, .invokevirtual 114, [0, 54, 1, 0]) from rfl) zm54 (hl.lt (a := 78) (by decide)) (hl.T (a := 78) (p := (0, 7)) 0 rfl rfl) rfl (show aCr 1 78 [.int x1, .ref 78] 2 = some ([some (.ref 78), some (.int x1)], []) from rfl)) hq1 ?_
    refine Q.run zm125 2 (i' := 5) (ls' := [some (.ref 78), some (.int x1), some (.int x2), some (.int x3), some (.int x4), some (.int x5), some (.null), none]) (st' := [.int x5]) rfl ?_
    obtain ⟨r9, hc8, h⟩ := bu_so h
    have hq7 : Q 1 sio tt cc d 55 0 [some (.int x5)] [] s (.inl (some (.int r9)), s) := dt55 (by omega) hl  hc8
    refine Q.callI (gC_st zm125 (show zM125.2.2.2.2.2[5]? = some (9, 3, .invokestatic 125, [0, 55, 1]) from rfl) zm55 (show aC 1 [.int x5] 1 = some ([some (.int x5)], []) from rfl)) hq7 ?_
    by_cases hc10 : r9 = 0
    · rw [if_pos hc10] at h
      refine Q.map (A.zT (gI_of zm125 (e := (12, 3, .ifCond .eq 20, [14])) rfl) (decide_eq_true hc10)) ?_
      exact dt125_14 hd hl  h
    · rw [if_neg hc10] at h
      refine Q.map (A.zF (gI_of zm125 (e := (12, 3, .ifCond .eq 20, [14])) rfl) (fun q => hc10 (of_decide_eq_true q))) ?_
      refine Q.run zm125 2 (i' := 14) (ls' := [some (.ref 78), some (.int x1), some (.int x2), some (.int x3), some (.int x4), some (.int x5), some (.null), none]) (st' := []) rfl ?_
      exact dt125_14 hd hl  h
  · clear h
    subst hv4
    have h := h9
    obtain ⟨hr6, h⟩ := ite_so h
    refine Q.callR (gC_vi zm125 (show zM125.2.2.2.2.2[2]? = some (2, 3, .invokevirtual 114, [0, 54, 1, 0]) from rfl) zm54 (hl.lt (a := 78) (by decide)) (hl.T (a := 78) (p := (0, 7)) 0 rfl rfl) rfl (show aCr 1 78 [.int x1, .ref 78] 2 = some ([some (.ref 78), some (.int x1)], []) from rfl)) hq1 ?_
    refine Q.run zm125 2 (i' := 5) (ls' := [some (.ref 78), some (.int x1), some (.int x2), some (.int x3), some (.int x4), some (.int x5), some (.ref b5), none]) (st' := [.int x5]) rfl ?_
    obtain ⟨r13, hc12, h⟩ := bu_so h
    have hq11 : Q 1 sio tt cc d 55 0 [some (.int x5)] [] s (.inl (some (.int r13)), s) := dt55 (by omega) hl  hc12
    refine Q.callI (gC_st zm125 (show zM125.2.2.2.2.2[5]? = some (9, 3, .invokestatic 125, [0, 55, 1]) from rfl) zm55 (show aC 1 [.int x5] 1 = some ([some (.int x5)], []) from rfl)) hq11 ?_
    by_cases hc14 : r13 = 0
    · rw [if_pos hc14] at h
      refine Q.map (A.zT (gI_of zm125 (e := (12, 3, .ifCond .eq 20, [14])) rfl) (decide_eq_true hc14)) ?_
      exact dt125_14 hd hl  h
    · rw [if_neg hc14] at h
      refine Q.map (A.zF (gI_of zm125 (e := (12, 3, .ifCond .eq 20, [14])) rfl) (fun q => hc14 (of_decide_eq_true q))) ?_
      refine Q.run zm125 3 (i' := 10) (ls' := [some (.ref 78), some (.int x1), some (.int x2), some (.int x3), some (.int x4), some (.int x5), some (.ref b5), none]) (st' := [.ref 78]) rfl ?_
      refine Q.map (A.gf (gI_of zm125 (e := (21, 3, .getfield 21, [0, 1])) rfl) (hl.lt (a := 78) (by decide)) (hl.T (a := 78) (p := (0, 7)) 0 rfl rfl) (by decide) (hl.R 1 rfl)) ?_
      refine Q.run zm125 1 (i' := 12) (ls' := [some (.ref 78), some (.int x1), some (.int x2), some (.int x3), some (.int x4), some (.int x5), some (.ref b5), none]) (st' := [.int x4, .ref 81]) rfl ?_
      obtain ⟨r17, hc16, h⟩ := bu_so h
      have hq15 : Q 1 sio tt cc d 40 0 [some (.ref 81), some (.int x4)] [] s (.inl (some (.int r17)), s) := dt40 (by omega) hl  hc16
      refine Q.callI (gC_vi zm125 (show zM125.2.2.2.2.2[12]? = some (26, 3, .invokevirtual 96, [0, 40, 1, 2]) from rfl) zm40 (hl.lt (a := 81) (by decide)) (hl.T (a := 81) (p := (2, 3)) 3 rfl rfl) rfl (show aCr 1 81 [.int x4, .ref 81] 2 = some ([some (.ref 81), some (.int x4)], []) from rfl)) hq15 ?_
      by_cases hc18 : r17 = 0
      · rw [if_pos hc18] at h
        refine Q.map (A.zF (gI_of zm125 (e := (29, 3, .ifCond .ne 13, [19])) rfl) (fun q => of_decide_eq_true q hc18)) ?_
        exact dt125_14 hd hl  h
      · rw [if_neg hc18] at h
        refine Q.map (A.zT (gI_of zm125 (e := (29, 3, .ifCond .ne 13, [19])) rfl) (decide_eq_true hc18)) ?_
        refine Q.run zm125 1 (i' := 20) (ls' := [some (.ref 78), some (.int x1), some (.int x2), some (.int x3), some (.int x4), some (.int x5), some (.ref b5), none]) (st' := [.int x2]) rfl ?_
        obtain ⟨r21, hc20, h⟩ := bu_so h
        have hq19 : Q 1 sio tt cc d 126 0 [some (.int x2)] [] s (.inl (some (.int r21)), s) := dt126 (by omega) hl  hc20
        refine Q.callI (gC_st zm125 (show zM125.2.2.2.2.2[20]? = some (43, 3, .invokestatic 134, [0, 126, 1]) from rfl) zm126 (show aC 1 [.int x2] 1 = some ([some (.int x2)], []) from rfl)) hq19 ?_
        by_cases hc22 : r21 = 0
        · rw [if_pos hc22] at h
          refine Q.map (A.zT (gI_of zm125 (e := (46, 3, .ifCond .eq 10, [25])) rfl) (decide_eq_true hc22)) ?_
          exact dt125_25 hd hl  h
        · rw [if_neg hc22] at h
          refine Q.map (A.zF (gI_of zm125 (e := (46, 3, .ifCond .eq 10, [25])) rfl) (fun q => hc22 (of_decide_eq_true q))) ?_
          refine Q.run zm125 1 (i' := 23) (ls' := [some (.ref 78), some (.int x1), some (.int x2), some (.int x3), some (.int x4), some (.int x5), some (.ref b5), none]) (st' := [.int x3]) rfl ?_
          obtain ⟨r25, hc24, h⟩ := bu_so h
          have hq23 : Q 1 sio tt cc d 126 0 [some (.int x3)] [] s (.inl (some (.int r25)), s) := dt126 (by omega) hl  hc24
          refine Q.callI (gC_st zm125 (show zM125.2.2.2.2.2[23]? = some (50, 3, .invokestatic 134, [0, 126, 1]) from rfl) zm126 (show aC 1 [.int x3] 1 = some ([some (.int x3)], []) from rfl)) hq23 ?_
          by_cases hc26 : r25 = 0
          · rw [if_pos hc26] at h
            refine Q.map (A.zF (gI_of zm125 (e := (53, 3, .ifCond .ne 13, [30])) rfl) (fun q => of_decide_eq_true q hc26)) ?_
            exact dt125_25 hd hl  h
          · rw [if_neg hc26] at h
            refine Q.map (A.zT (gI_of zm125 (e := (53, 3, .ifCond .ne 13, [30])) rfl) (decide_eq_true hc26)) ?_
            refine Q.run zm125 1 (i' := 31) (ls' := [some (.ref 78), some (.int x1), some (.int x2), some (.int x3), some (.int x4), some (.int x5), some (.ref b5), none]) (st' := [.ref 78]) rfl ?_
            refine Q.map (A.gf (gI_of zm125 (e := (67, 3, .getfield 27, [0, 2])) rfl) (hl.lt (a := 78) (by decide)) (hl.T (a := 78) (p := (0, 7)) 0 rfl rfl) (by decide) (hl.R 2 rfl)) ?_
            refine Q.run zm125 1 (i' := 33) (ls' := [some (.ref 78), some (.int x1), some (.int x2), some (.int x3), some (.int x4), some (.int x5), some (.ref b5), none]) (st' := [.int x5, .ref 100]) rfl ?_
            obtain ⟨hc27, h⟩ := ite_so h
            rcases vN_so h with ⟨hv28, h⟩ | ⟨b29, hv28, h⟩
            · refine Q.map (A.aa (gI_of zm125 (e := (72, 1, .aaload, [])) rfl) (hl.lt (a := 100) (by decide)) (hl.T (a := 100) (p := (113, 8)) 22 rfl rfl) (by decide) hc27 hv28) ?_
              refine Q.run zm125 3 (i' := 37) (ls' := [some (.ref 78), some (.int x1), some (.int x2), some (.int x3), some (.int x4), some (.int x5), some (.ref b5), some (.null)]) (st' := []) rfl ?_
              obtain ⟨s31, hs32, h⟩ := nx_so h
              obtain ⟨b34, hb35, h⟩ := nx_so h
              have hq36 := lay_tree hl.gL hl
              refine Q.tree hs32 hl.gL hb35 zm125 (gI_of zm125 (e := (80, 3, .new 25, [3, 2, 2, 0])) rfl) (gI_of zm125 (e := (83, 1, .dup, [])) rfl) (show zM125.2.2.2.2.2[39]? = some (84, 3, .invokespecial 35, [0, 19, 0]) from rfl) (eq_true (show 1 ≤ 8 by decide)) (by omega) hl ?_
              have hl33 : Ly tt cc s31 := by rw [hs32]; exact hq36.1
              have hr37 : aK s31 b5 3 := by rw [hs32]; exact hq36.2.1.k hr6
              have hr38 : aK s31 b34 3 := by rw [hs32, hb35]; exact hq36.2.2
              refine Q.run zm125 2 (i' := 42) (ls' := [some (.ref 78), some (.int x1), some (.int x2), some (.int x3), some (.int x4), some (.int x5), some (.ref b5), some (.ref b34)]) (st' := [.ref 78]) rfl ?_
              refine Q.map (A.gf (gI_of zm125 (e := (90, 3, .getfield 27, [0, 2])) rfl) (hl33.lt (a := 78) (by decide)) (hl33.T (a := 78) (p := (0, 7)) 0 rfl rfl) (by decide) (hl33.R 2 rfl)) ?_
              refine Q.run zm125 2 (i' := 45) (ls' := [some (.ref 78), some (.int x1), some (.int x2), some (.int x3), some (.int x4), some (.int x5), some (.ref b5), some (.ref b34)]) (st' := [.ref b34, .int x5, .ref 100]) rfl ?_
              obtain ⟨hc39, h⟩ := ite_so h
              obtain ⟨s40, hs41, h⟩ := nx_so h
              refine Q.as hs41 rfl (gI_of zm125 (e := (97, 1, .aastore, [3])) rfl) (hl33.lt (a := 100) (by decide)) (by decide) (by decide) (hl33.T (a := 100) (p := (113, 8)) 22 rfl rfl) hr38.1 (hl33.tr hr38).1 hc39 ?_
              have hl42 : Ly tt cc s40 := by rw [hs41]; exact hl33.wRd (hl33.T (a := 100) (p := (113, 8)) 22 rfl rfl) (by decide) (lay_noR _)
              have hr43 : aK s40 b5 3 := by rw [hs41]; exact hr37
              have hr44 : aK s40 b34 3 := by rw [hs41]; exact hr38
              exact dt125_46 hd hl42 hr43 hr44 h
            · obtain ⟨hr30, h⟩ := ite_so h
              refine Q.map (A.aa (gI_of zm125 (e := (72, 1, .aaload, [])) rfl) (hl.lt (a := 100) (by decide)) (hl.T (a := 100) (p := (113, 8)) 22 rfl rfl) (by decide) hc27 hv28) ?_
              refine Q.run zm125 3 (i' := 46) (ls' := [some (.ref 78), some (.int x1), some (.int x2), some (.int x3), some (.int x4), some (.int x5), some (.ref b5), some (.ref b29)]) (st' := []) rfl ?_
              exact dt125_46 hd hl hr6 hr30 h
/-! 6 FormulaTreesLaw.move(LFormulaTrees;IIIII)I -/
set_option maxRecDepth 100000 in
theorem zm6 : zP[6]? = some zM6 := rfl
def dm6 (x1 : Int32) (x2 : Int32) (x3 : Int32) (x4 : Int32) (x5 : Int32) (s : aS) : Option (Int32 × aS) :=
  bv (dm125 x1 x2 x3 x4 x5 s) fun z4 s3 =>
  zN z4 (fun v5 =>
    vV v5 <|
    some (0, s3)
  ) fun e6 =>
    if e6 = 2 then
      some (1, s3)
    else
      if e6 = 0 then
        some (2, s3)
      else
        none
set_option maxRecDepth 100000 in
theorem dt6 {sio : Bool} {tt : Nat} {cc : Nat → Nat → Int32} {d : Nat} (hd : 10 ≤ d) {x1 : Int32} {x2 : Int32} {x3 : Int32} {x4 : Int32} {x5 : Int32} {s : aS} (hl : Ly tt cc s) {o : Int32 × aS} (h : dm6  x1 x2 x3 x4 x5 s = some o) : Q 1 sio tt cc d 6 0 [some (.ref 78), some (.int x1), some (.int x2), some (.int x3), some (.int x4), some (.int x5), none] [] s (.inl (some (.int o.1)), o.2) := by
  unfold dm6 at h
  obtain ⟨d, rfl⟩ : ∃ e, d = e + 1 := ⟨d - 1, by omega⟩
  refine Q.run zm6 6 (i' := 6) (ls' := [some (.ref 78), some (.int x1), some (.int x2), some (.int x3), some (.int x4), some (.int x5), none]) (st' := [.int x5, .int x4, .int x3, .int x2, .int x1, .ref 78]) rfl ?_
  obtain ⟨z4, s3, hc2, h⟩ := bv_so h
  have hq1 : Q 1 sio tt cc d 125 0 [some (.ref 78), some (.int x1), some (.int x2), some (.int x3), some (.int x4), some (.int x5), none, none] [] s (z4, s3) := dt125 (by omega) hl  hc2
  rcases zN_so h with ⟨v5, hz8, h8⟩ | ⟨e6, hz8, h8⟩
  · clear h
    subst hz8
    have h := h8
    obtain ⟨hv7, h9⟩ := vV_so h
    clear h
    subst hv7
    have h := h9
    refine Q.callV (gC_vi zm6 (show zM6.2.2.2.2.2[6]? = some (8, 3, .invokevirtual 34, [0, 125, 5, 0]) from rfl) zm125 (hl.lt (a := 78) (by decide)) (hl.T (a := 78) (p := (0, 7)) 0 rfl rfl) rfl (show aCr 5 78 [.int x5, .int x4, .int x3, .int x2, .int x1, .ref 78] 8 = some ([some (.ref 78), some (.int x1), some (.int x2), some (.int x3), some (.int x4), some (.int x5), none, none], []) from rfl)) hq1 ?_
    refine Q.run zm6 2 (i' := 15) (ls' := [some (.ref 78), some (.int x1), some (.int x2), some (.int x3), some (.int x4), some (.int x5), none]) (st' := [.int 0]) rfl ?_
    cases h
    exact Q.ret (A.ri zm6 (show zM6.2.2.2.2.2[15]? = some (23, 1, .ireturn, []) from rfl) rfl rfl) hq1.1
  · clear h
    subst hz8
    have h := h8
    by_cases hc9 : e6 = 2
    · rw [if_pos hc9] at h
      subst hc9
      refine Q.hc (gC_vi zm6 (show zM6.2.2.2.2.2[6]? = some (8, 3, .invokevirtual 34, [0, 125, 5, 0]) from rfl) zm125 (hl.lt (a := 78) (by decide)) (hl.T (a := 78) (p := (0, 7)) 0 rfl rfl) rfl (show aCr 5 78 [.int x5, .int x4, .int x3, .int x2, .int x1, .ref 78] 8 = some ([some (.ref 78), some (.int x1), some (.int x2), some (.int x3), some (.int x4), some (.int x5), none, none], []) from rfl)) hq1 (t := 8) rfl ?_
      refine Q.run zm6 2 (i' := 10) (ls' := [some (.ref 78), some (.int x1), some (.int x2), some (.int x3), some (.int x4), some (.int x5), some (.ref (sL s3 - 1))]) (st' := [.int 1]) rfl ?_
      cases h
      exact Q.ret (A.ri zm6 (show zM6.2.2.2.2.2[10]? = some (17, 1, .ireturn, []) from rfl) rfl rfl) hq1.1
    · rw [if_neg hc9] at h
      by_cases hc10 : e6 = 0
      · rw [if_pos hc10] at h
        subst hc10
        refine Q.hc (gC_vi zm6 (show zM6.2.2.2.2.2[6]? = some (8, 3, .invokevirtual 34, [0, 125, 5, 0]) from rfl) zm125 (hl.lt (a := 78) (by decide)) (hl.T (a := 78) (p := (0, 7)) 0 rfl rfl) rfl (show aCr 5 78 [.int x5, .int x4, .int x3, .int x2, .int x1, .ref 78] 8 = some ([some (.ref 78), some (.int x1), some (.int x2), some (.int x3), some (.int x4), some (.int x5), none, none], []) from rfl)) hq1 (t := 11) rfl ?_
        refine Q.run zm6 2 (i' := 13) (ls' := [some (.ref 78), some (.int x1), some (.int x2), some (.int x3), some (.int x4), some (.int x5), some (.ref (sL s3 - 1))]) (st' := [.int 2]) rfl ?_
        cases h
        exact Q.ret (A.ri zm6 (show zM6.2.2.2.2.2[13]? = some (21, 1, .ireturn, []) from rfl) rfl rfl) hq1.1
      · rw [if_neg hc10] at h
        cases h
/-! 225 FormulaTreesModel.noFormula(I)Z -/
set_option maxRecDepth 100000 in
theorem zm225 : zP[225]? = some zM225 := rfl
def dm225_10 (s : aS) : Option (Int32) :=
  some 1
set_option maxRecDepth 100000 in
theorem dt225_10 {sio : Bool} {tt : Nat} {cc : Nat → Nat → Int32} {d : Nat} (hd : 0 ≤ d) {x1 : Int32} {s : aS} (hl : Ly tt cc s) {o : Int32} (h : dm225_10  s = some o) : Q 2 sio tt cc d 225 10 [some (.ref 121), some (.int x1)] [] s (.inl (some (.int o)), s) := by
  unfold dm225_10 at h
  refine Q.run zm225 2 (i' := 13) (ls' := [some (.ref 121), some (.int x1)]) (st' := [.int 1]) rfl ?_
  cases h
  exact Q.ret (A.ri zm225 (show zM225.2.2.2.2.2[13]? = some (24, 1, .ireturn, []) from rfl) rfl rfl) hl
def dm225 (x1 : Int32) (s : aS) : Option (Int32) :=
  if x1 < 0 then
    dm225_10 s
  else
    if 7 < x1 then
      dm225_10 s
    else
      if aB x1 8 then
        if (sI s 125 (jN x1)) = 0 then
          dm225_10 s
        else
          some 0
      else none
set_option maxRecDepth 100000 in
theorem dt225 {sio : Bool} {tt : Nat} {cc : Nat → Nat → Int32} {d : Nat} (hd : 0 ≤ d) {x1 : Int32} {s : aS} (hl : Ly tt cc s) {o : Int32} (h : dm225  x1 s = some o) : Q 2 sio tt cc d 225 0 [some (.ref 121), some (.int x1)] [] s (.inl (some (.int o)), s) := by
  unfold dm225 at h
  refine Q.run zm225 1 (i' := 1) (ls' := [some (.ref 121), some (.int x1)]) (st' := [.int x1]) rfl ?_
  by_cases hc1 : x1 < 0
  · rw [if_pos hc1] at h
    refine Q.map (A.zT (gI_of zm225 (e := (1, 3, .ifCond .lt 18, [10])) rfl) (decide_eq_true hc1)) ?_
    exact dt225_10 hd hl  h
  · rw [if_neg hc1] at h
    refine Q.map (A.zF (gI_of zm225 (e := (1, 3, .ifCond .lt 18, [10])) rfl) (fun q => hc1 (of_decide_eq_true q))) ?_
    refine Q.run zm225 2 (i' := 4) (ls' := [some (.ref 121), some (.int x1)]) (st' := [.int 7, .int x1]) rfl ?_
    by_cases hc2 : 7 < x1
    · rw [if_pos hc2] at h
      refine Q.map (A.bT (gI_of zm225 (e := (7, 3, .if_icmp .gt 12, [10])) rfl) (decide_eq_true hc2)) ?_
      exact dt225_10 hd hl  h
    · rw [if_neg hc2] at h
      refine Q.map (A.bF (gI_of zm225 (e := (7, 3, .if_icmp .gt 12, [10])) rfl) (fun q => hc2 (of_decide_eq_true q))) ?_
      refine Q.run zm225 1 (i' := 6) (ls' := [some (.ref 121), some (.int x1)]) (st' := [.ref 121]) rfl ?_
      refine Q.map (A.gf (gI_of zm225 (e := (11, 3, .getfield 19, [9, 6])) rfl) (hl.lt (a := 121) (by decide)) (hl.T (a := 121) (p := (9, 45)) 43 rfl rfl) (by decide) (hl.R 26 rfl)) ?_
      refine Q.run zm225 1 (i' := 8) (ls' := [some (.ref 121), some (.int x1)]) (st' := [.int x1, .ref 125]) rfl ?_
      obtain ⟨hc3, h⟩ := ite_so h
      refine Q.map (A.ba (gI_of zm225 (e := (15, 1, .baload, [])) rfl) (hl.lt (a := 125) (by decide)) (hl.T (a := 125) (p := (103, 8)) 47 rfl rfl) (by decide) hc3) ?_
      by_cases hc4 : (sI s 125 (jN x1)) = 0
      · rw [if_pos hc4] at h
        refine Q.map (A.zF (gI_of zm225 (e := (16, 3, .ifCond .ne 7, [12])) rfl) (fun q => of_decide_eq_true q hc4)) ?_
        exact dt225_10 hd hl  h
      · rw [if_neg hc4] at h
        refine Q.map (A.zT (gI_of zm225 (e := (16, 3, .ifCond .ne 7, [12])) rfl) (decide_eq_true hc4)) ?_
        refine Q.run zm225 1 (i' := 13) (ls' := [some (.ref 121), some (.int x1)]) (st' := [.int 0]) rfl ?_
        cases h
        exact Q.ret (A.ri zm225 (show zM225.2.2.2.2.2[13]? = some (24, 1, .ireturn, []) from rfl) rfl rfl) hl
/-! 227 FormulaTreesModel.beyond(II)Z -/
set_option maxRecDepth 100000 in
theorem zm227 : zP[227]? = some zM227 := rfl
def dm227_6 : Option (Int32) :=
  some 1
set_option maxRecDepth 100000 in
theorem dt227_6 {sio : Bool} {tt : Nat} {cc : Nat → Nat → Int32} {d : Nat} (hd : 0 ≤ d) {x0 : Int32} {x1 : Int32} {s : aS} (hl : Ly tt cc s) {o : Int32} (h : dm227_6   = some o) : Q 2 sio tt cc d 227 6 [some (.int x0), some (.int x1)] [] s (.inl (some (.int o)), s) := by
  unfold dm227_6 at h
  refine Q.run zm227 2 (i' := 9) (ls' := [some (.int x0), some (.int x1)]) (st' := [.int 1]) rfl ?_
  cases h
  exact Q.ret (A.ri zm227 (show zM227.2.2.2.2.2[9]? = some (15, 1, .ireturn, []) from rfl) rfl rfl) hl
def dm227 (x0 : Int32) (x1 : Int32) : Option (Int32) :=
  if x0 < 1 then
    dm227_6 
  else
    if x0 ≤ x1 then
      some 0
    else
      dm227_6 
set_option maxRecDepth 100000 in
theorem dt227 {sio : Bool} {tt : Nat} {cc : Nat → Nat → Int32} {d : Nat} (hd : 0 ≤ d) {x0 : Int32} {x1 : Int32} {s : aS} (hl : Ly tt cc s) {o : Int32} (h : dm227  x0 x1 = some o) : Q 2 sio tt cc d 227 0 [some (.int x0), some (.int x1)] [] s (.inl (some (.int o)), s) := by
  unfold dm227 at h
  refine Q.run zm227 2 (i' := 2) (ls' := [some (.int x0), some (.int x1)]) (st' := [.int 1, .int x0]) rfl ?_
  by_cases hc1 : x0 < 1
  · rw [if_pos hc1] at h
    refine Q.map (A.bT (gI_of zm227 (e := (2, 3, .if_icmp .lt 8, [6])) rfl) (decide_eq_true hc1)) ?_
    exact dt227_6 hd hl  h
  · rw [if_neg hc1] at h
    refine Q.map (A.bF (gI_of zm227 (e := (2, 3, .if_icmp .lt 8, [6])) rfl) (fun q => hc1 (of_decide_eq_true q))) ?_
    refine Q.run zm227 2 (i' := 5) (ls' := [some (.int x0), some (.int x1)]) (st' := [.int x1, .int x0]) rfl ?_
    by_cases hc2 : x0 ≤ x1
    · rw [if_pos hc2] at h
      refine Q.map (A.bT (gI_of zm227 (e := (7, 3, .if_icmp .le 7, [8])) rfl) (decide_eq_true hc2)) ?_
      refine Q.run zm227 1 (i' := 9) (ls' := [some (.int x0), some (.int x1)]) (st' := [.int 0]) rfl ?_
      cases h
      exact Q.ret (A.ri zm227 (show zM227.2.2.2.2.2[9]? = some (15, 1, .ireturn, []) from rfl) rfl rfl) hl
    · rw [if_neg hc2] at h
      refine Q.map (A.bF (gI_of zm227 (e := (7, 3, .if_icmp .le 7, [8])) rfl) (fun q => hc2 (of_decide_eq_true q))) ?_
      exact dt227_6 hd hl  h
/-! 226 FormulaTreesModel.moveNode(III)V -/
set_option maxRecDepth 100000 in
theorem zm226 : zP[226]? = some zM226 := rfl
def dm226_140 (x1 : Int32) (s : aS) : Option (aS) :=
  bu (dm183 x1 s) fun s3 =>
  some s3
set_option maxRecDepth 100000 in
theorem dt226_140 {sio : Bool} {tt : Nat} {cc : Nat → Nat → Int32} {d : Nat} (hd : 1 ≤ d) {x1 : Int32} {x2 : Int32} {x3 : Int32} {x4 : Int32} {s : aS} (hl : Ly tt cc s) {o : aS} (h : dm226_140  x1 s = some o) : Q 2 sio tt cc d 226 140 [some (.ref 121), some (.int x1), some (.int x2), some (.int x3), some (.int x4)] [] s (.inl none, o) := by
  unfold dm226_140 at h
  obtain ⟨d, rfl⟩ : ∃ e, d = e + 1 := ⟨d - 1, by omega⟩
  refine Q.run zm226 2 (i' := 142) (ls' := [some (.ref 121), some (.int x1), some (.int x2), some (.int x3), some (.int x4)]) (st' := [.int x1, .ref 121]) rfl ?_
  obtain ⟨s3, hc2, h⟩ := bu_so h
  have hq1 : Q 2 sio tt cc d 183 0 [some (.ref 121), some (.int x1)] [] s (.inl none, s3) := dt183 (by omega) hl  hc2
  refine Q.callV (gC_vi zm226 (show zM226.2.2.2.2.2[142]? = some (242, 3, .invokevirtual 131, [0, 183, 1, 9]) from rfl) zm183 (hl.lt (a := 121) (by decide)) (hl.T (a := 121) (p := (9, 45)) 43 rfl rfl) rfl (show aCr 1 121 [.int x1, .ref 121] 2 = some ([some (.ref 121), some (.int x1)], []) from rfl)) hq1 ?_
  refine Q.run zm226 1 (i' := 149) (ls' := [some (.ref 121), some (.int x1), some (.int x2), some (.int x3), some (.int x4)]) (st' := []) rfl ?_
  cases h
  exact Q.ret (A.rv zm226 (show zM226.2.2.2.2.2[149]? = some (258, 1, .return_, []) from rfl) rfl) hq1.1
def dm226_111 (x1 : Int32) (x4 : Int32) (y1 : Int32) (y2 : Int32) (s : aS) : Option (aS) :=
  if aB y1 1152 then
    nx (wI s 134 (jN y1) y2) fun s2 =>
    if aB x1 1152 then
      bu (dm227 (sI s2 131 (jN x1)) 1048576) fun r8 =>
      if r8 = 0 then
        if aB x1 1152 then
          bu (dm227 (sI s2 133 (jN x1)) 1048576) fun r13 =>
          if r13 = 0 then
            if aB x1 1152 then
              bu (dm227 (sI s2 132 (jN x1)) 16384) fun r18 =>
              if r18 = 0 then
                if aB x1 1152 then
                  bu (dm227 (sI s2 134 (jN x1)) 16384) fun r23 =>
                  if r23 = 0 then
                    if x4 = 0 then
                      bu (dm219 x1 s2) fun s28 =>
                      some s28
                    else
                      some s2
                  else
                    dm226_140 x1 s2
                else none
              else
                dm226_140 x1 s2
            else none
          else
            dm226_140 x1 s2
        else none
      else
        dm226_140 x1 s2
    else none
  else none
set_option maxRecDepth 100000 in
theorem dt226_111 {sio : Bool} {tt : Nat} {cc : Nat → Nat → Int32} {d : Nat} (hd : 1 ≤ d) {x1 : Int32} {x4 : Int32} {y1 : Int32} {y2 : Int32} {x2 : Int32} {x3 : Int32} {s : aS} (hl : Ly tt cc s) {o : aS} (h : dm226_111  x1 x4 y1 y2 s = some o) : Q 2 sio tt cc d 226 111 [some (.ref 121), some (.int x1), some (.int x2), some (.int x3), some (.int x4)] [.int y2, .int y1, .ref 134] s (.inl none, o) := by
  unfold dm226_111 at h
  obtain ⟨d, rfl⟩ : ∃ e, d = e + 1 := ⟨d - 1, by omega⟩
  obtain ⟨hc1, h⟩ := ite_so h
  obtain ⟨s2, hs3, h⟩ := nx_so h
  refine Q.is hs3 rfl (gI_of zm226 (e := (181, 1, .iastore, [])) rfl) (hl.lt (a := 134) (by decide)) (by decide) (hl.T (a := 134) (p := (100, 1152)) 56 rfl rfl) hc1 ?_
  have hl4 : Ly tt cc s2 := by rw [hs3]; exact hl.wId (by decide)
  refine Q.run zm226 1 (i' := 113) (ls' := [some (.ref 121), some (.int x1), some (.int x2), some (.int x3), some (.int x4)]) (st' := [.ref 121]) rfl ?_
  refine Q.map (A.gf (gI_of zm226 (e := (183, 3, .getfield 38, [9, 12])) rfl) (hl4.lt (a := 121) (by decide)) (hl4.T (a := 121) (p := (9, 45)) 43 rfl rfl) (by decide) (hl4.R 32 rfl)) ?_
  refine Q.run zm226 1 (i' := 115) (ls' := [some (.ref 121), some (.int x1), some (.int x2), some (.int x3), some (.int x4)]) (st' := [.int x1, .ref 131]) rfl ?_
  obtain ⟨hc5, h⟩ := ite_so h
  refine Q.map (A.ia (gI_of zm226 (e := (187, 1, .iaload, [])) rfl) (hl4.lt (a := 131) (by decide)) (hl4.T (a := 131) (p := (100, 1152)) 53 rfl rfl) hc5) ?_
  refine Q.run zm226 1 (i' := 117) (ls' := [some (.ref 121), some (.int x1), some (.int x2), some (.int x3), some (.int x4)]) (st' := [.int 1048576, .int (sI s2 131 (jN x1))]) rfl ?_
  obtain ⟨r8, hc7, h⟩ := bu_so h
  have hq6 : Q 2 sio tt cc d 227 0 [some (.int (sI s2 131 (jN x1))), some (.int 1048576)] [] s2 (.inl (some (.int r8)), s2) := dt227 (by omega) hl4  hc7
  refine Q.callI (gC_st zm226 (show zM226.2.2.2.2.2[117]? = some (190, 3, .invokestatic 317, [0, 227, 2]) from rfl) zm227 (show aC 2 [.int 1048576, .int (sI s2 131 (jN x1))] 2 = some ([some (.int (sI s2 131 (jN x1))), some (.int 1048576)], []) from rfl)) hq6 ?_
  by_cases hc9 : r8 = 0
  · rw [if_pos hc9] at h
    refine Q.map (A.zF (gI_of zm226 (e := (193, 3, .ifCond .ne 47, [140])) rfl) (fun q => of_decide_eq_true q hc9)) ?_
    refine Q.run zm226 1 (i' := 120) (ls' := [some (.ref 121), some (.int x1), some (.int x2), some (.int x3), some (.int x4)]) (st' := [.ref 121]) rfl ?_
    refine Q.map (A.gf (gI_of zm226 (e := (197, 3, .getfield 44, [9, 14])) rfl) (hl4.lt (a := 121) (by decide)) (hl4.T (a := 121) (p := (9, 45)) 43 rfl rfl) (by decide) (hl4.R 34 rfl)) ?_
    refine Q.run zm226 1 (i' := 122) (ls' := [some (.ref 121), some (.int x1), some (.int x2), some (.int x3), some (.int x4)]) (st' := [.int x1, .ref 133]) rfl ?_
    obtain ⟨hc10, h⟩ := ite_so h
    refine Q.map (A.ia (gI_of zm226 (e := (201, 1, .iaload, [])) rfl) (hl4.lt (a := 133) (by decide)) (hl4.T (a := 133) (p := (100, 1152)) 55 rfl rfl) hc10) ?_
    refine Q.run zm226 1 (i' := 124) (ls' := [some (.ref 121), some (.int x1), some (.int x2), some (.int x3), some (.int x4)]) (st' := [.int 1048576, .int (sI s2 133 (jN x1))]) rfl ?_
    obtain ⟨r13, hc12, h⟩ := bu_so h
    have hq11 : Q 2 sio tt cc d 227 0 [some (.int (sI s2 133 (jN x1))), some (.int 1048576)] [] s2 (.inl (some (.int r13)), s2) := dt227 (by omega) hl4  hc12
    refine Q.callI (gC_st zm226 (show zM226.2.2.2.2.2[124]? = some (204, 3, .invokestatic 317, [0, 227, 2]) from rfl) zm227 (show aC 2 [.int 1048576, .int (sI s2 133 (jN x1))] 2 = some ([some (.int (sI s2 133 (jN x1))), some (.int 1048576)], []) from rfl)) hq11 ?_
    by_cases hc14 : r13 = 0
    · rw [if_pos hc14] at h
      refine Q.map (A.zF (gI_of zm226 (e := (207, 3, .ifCond .ne 33, [140])) rfl) (fun q => of_decide_eq_true q hc14)) ?_
      refine Q.run zm226 1 (i' := 127) (ls' := [some (.ref 121), some (.int x1), some (.int x2), some (.int x3), some (.int x4)]) (st' := [.ref 121]) rfl ?_
      refine Q.map (A.gf (gI_of zm226 (e := (211, 3, .getfield 41, [9, 13])) rfl) (hl4.lt (a := 121) (by decide)) (hl4.T (a := 121) (p := (9, 45)) 43 rfl rfl) (by decide) (hl4.R 33 rfl)) ?_
      refine Q.run zm226 1 (i' := 129) (ls' := [some (.ref 121), some (.int x1), some (.int x2), some (.int x3), some (.int x4)]) (st' := [.int x1, .ref 132]) rfl ?_
      obtain ⟨hc15, h⟩ := ite_so h
      refine Q.map (A.ia (gI_of zm226 (e := (215, 1, .iaload, [])) rfl) (hl4.lt (a := 132) (by decide)) (hl4.T (a := 132) (p := (100, 1152)) 54 rfl rfl) hc15) ?_
      refine Q.run zm226 1 (i' := 131) (ls' := [some (.ref 121), some (.int x1), some (.int x2), some (.int x3), some (.int x4)]) (st' := [.int 16384, .int (sI s2 132 (jN x1))]) rfl ?_
      obtain ⟨r18, hc17, h⟩ := bu_so h
      have hq16 : Q 2 sio tt cc d 227 0 [some (.int (sI s2 132 (jN x1))), some (.int 16384)] [] s2 (.inl (some (.int r18)), s2) := dt227 (by omega) hl4  hc17
      refine Q.callI (gC_st zm226 (show zM226.2.2.2.2.2[131]? = some (219, 3, .invokestatic 317, [0, 227, 2]) from rfl) zm227 (show aC 2 [.int 16384, .int (sI s2 132 (jN x1))] 2 = some ([some (.int (sI s2 132 (jN x1))), some (.int 16384)], []) from rfl)) hq16 ?_
      by_cases hc19 : r18 = 0
      · rw [if_pos hc19] at h
        refine Q.map (A.zF (gI_of zm226 (e := (222, 3, .ifCond .ne 18, [140])) rfl) (fun q => of_decide_eq_true q hc19)) ?_
        refine Q.run zm226 1 (i' := 134) (ls' := [some (.ref 121), some (.int x1), some (.int x2), some (.int x3), some (.int x4)]) (st' := [.ref 121]) rfl ?_
        refine Q.map (A.gf (gI_of zm226 (e := (226, 3, .getfield 47, [9, 15])) rfl) (hl4.lt (a := 121) (by decide)) (hl4.T (a := 121) (p := (9, 45)) 43 rfl rfl) (by decide) (hl4.R 35 rfl)) ?_
        refine Q.run zm226 1 (i' := 136) (ls' := [some (.ref 121), some (.int x1), some (.int x2), some (.int x3), some (.int x4)]) (st' := [.int x1, .ref 134]) rfl ?_
        obtain ⟨hc20, h⟩ := ite_so h
        refine Q.map (A.ia (gI_of zm226 (e := (230, 1, .iaload, [])) rfl) (hl4.lt (a := 134) (by decide)) (hl4.T (a := 134) (p := (100, 1152)) 56 rfl rfl) hc20) ?_
        refine Q.run zm226 1 (i' := 138) (ls' := [some (.ref 121), some (.int x1), some (.int x2), some (.int x3), some (.int x4)]) (st' := [.int 16384, .int (sI s2 134 (jN x1))]) rfl ?_
        obtain ⟨r23, hc22, h⟩ := bu_so h
        have hq21 : Q 2 sio tt cc d 227 0 [some (.int (sI s2 134 (jN x1))), some (.int 16384)] [] s2 (.inl (some (.int r23)), s2) := dt227 (by omega) hl4  hc22
        refine Q.callI (gC_st zm226 (show zM226.2.2.2.2.2[138]? = some (234, 3, .invokestatic 317, [0, 227, 2]) from rfl) zm227 (show aC 2 [.int 16384, .int (sI s2 134 (jN x1))] 2 = some ([some (.int (sI s2 134 (jN x1))), some (.int 16384)], []) from rfl)) hq21 ?_
        by_cases hc24 : r23 = 0
        · rw [if_pos hc24] at h
          refine Q.map (A.zT (gI_of zm226 (e := (237, 3, .ifCond .eq 11, [144])) rfl) (decide_eq_true hc24)) ?_
          refine Q.run zm226 1 (i' := 145) (ls' := [some (.ref 121), some (.int x1), some (.int x2), some (.int x3), some (.int x4)]) (st' := [.int x4]) rfl ?_
          by_cases hc25 : x4 = 0
          · rw [if_pos hc25] at h
            refine Q.map (A.zF (gI_of zm226 (e := (250, 3, .ifCond .ne 8, [149])) rfl) (fun q => of_decide_eq_true q hc25)) ?_
            refine Q.run zm226 2 (i' := 148) (ls' := [some (.ref 121), some (.int x1), some (.int x2), some (.int x3), some (.int x4)]) (st' := [.int x1, .ref 121]) rfl ?_
            obtain ⟨s28, hc27, h⟩ := bu_so h
            have hq26 : Q 2 sio tt cc d 219 0 [some (.ref 121), some (.int x1), none] [] s2 (.inl none, s28) := dt219 (by omega) hl4  hc27
            refine Q.callV (gC_vi zm226 (show zM226.2.2.2.2.2[148]? = some (255, 3, .invokevirtual 219, [0, 219, 1, 9]) from rfl) zm219 (hl4.lt (a := 121) (by decide)) (hl4.T (a := 121) (p := (9, 45)) 43 rfl rfl) rfl (show aCr 1 121 [.int x1, .ref 121] 3 = some ([some (.ref 121), some (.int x1), none], []) from rfl)) hq26 ?_
            cases h
            exact Q.ret (A.rv zm226 (show zM226.2.2.2.2.2[149]? = some (258, 1, .return_, []) from rfl) rfl) hq26.1
          · rw [if_neg hc25] at h
            refine Q.map (A.zT (gI_of zm226 (e := (250, 3, .ifCond .ne 8, [149])) rfl) (decide_eq_true hc25)) ?_
            cases h
            exact Q.ret (A.rv zm226 (show zM226.2.2.2.2.2[149]? = some (258, 1, .return_, []) from rfl) rfl) hl4
        · rw [if_neg hc24] at h
          refine Q.map (A.zF (gI_of zm226 (e := (237, 3, .ifCond .eq 11, [144])) rfl) (fun q => hc24 (of_decide_eq_true q))) ?_
          exact dt226_140 hd hl4  h
      · rw [if_neg hc19] at h
        refine Q.map (A.zT (gI_of zm226 (e := (222, 3, .ifCond .ne 18, [140])) rfl) (decide_eq_true hc19)) ?_
        exact dt226_140 hd hl4  h
    · rw [if_neg hc14] at h
      refine Q.map (A.zT (gI_of zm226 (e := (207, 3, .ifCond .ne 33, [140])) rfl) (decide_eq_true hc14)) ?_
      exact dt226_140 hd hl4  h
  · rw [if_neg hc9] at h
    refine Q.map (A.zT (gI_of zm226 (e := (193, 3, .ifCond .ne 47, [140])) rfl) (decide_eq_true hc9)) ?_
    exact dt226_140 hd hl4  h
def dm226_82 (x1 : Int32) (x3 : Int32) (x4 : Int32) (y1 : Int32) (y2 : Int32) (s : aS) : Option (aS) :=
  if aB y1 1152 then
    nx (wI s 133 (jN y1) y2) fun s2 =>
    if x4 = 0 then
      if aB x1 1152 then
        if ((sI s2 135 (jN x1)) &&& 8) ≤ 0 then
          if aB x1 1152 then
            dm226_111 x1 x4 x1 ((sI s2 134 (jN x1)) + x3) s2
          else none
        else
          if aB x1 1152 then
            dm226_111 x1 x4 x1 (sI s2 134 (jN x1)) s2
          else none
      else none
    else
      if aB x1 1152 then
        dm226_111 x1 x4 x1 (sI s2 132 (jN x1)) s2
      else none
  else none
set_option maxRecDepth 100000 in
theorem dt226_82 {sio : Bool} {tt : Nat} {cc : Nat → Nat → Int32} {d : Nat} (hd : 1 ≤ d) {x1 : Int32} {x3 : Int32} {x4 : Int32} {y1 : Int32} {y2 : Int32} {x2 : Int32} {s : aS} (hl : Ly tt cc s) {o : aS} (h : dm226_82  x1 x3 x4 y1 y2 s = some o) : Q 2 sio tt cc d 226 82 [some (.ref 121), some (.int x1), some (.int x2), some (.int x3), some (.int x4)] [.int y2, .int y1, .ref 133] s (.inl none, o) := by
  unfold dm226_82 at h
  obtain ⟨d, rfl⟩ : ∃ e, d = e + 1 := ⟨d - 1, by omega⟩
  obtain ⟨hc1, h⟩ := ite_so h
  obtain ⟨s2, hs3, h⟩ := nx_so h
  refine Q.is hs3 rfl (gI_of zm226 (e := (132, 1, .iastore, [])) rfl) (hl.lt (a := 133) (by decide)) (by decide) (hl.T (a := 133) (p := (100, 1152)) 55 rfl rfl) hc1 ?_
  have hl4 : Ly tt cc s2 := by rw [hs3]; exact hl.wId (by decide)
  refine Q.run zm226 1 (i' := 84) (ls' := [some (.ref 121), some (.int x1), some (.int x2), some (.int x3), some (.int x4)]) (st' := [.ref 121]) rfl ?_
  refine Q.map (A.gf (gI_of zm226 (e := (134, 3, .getfield 47, [9, 15])) rfl) (hl4.lt (a := 121) (by decide)) (hl4.T (a := 121) (p := (9, 45)) 43 rfl rfl) (by decide) (hl4.R 35 rfl)) ?_
  refine Q.run zm226 2 (i' := 87) (ls' := [some (.ref 121), some (.int x1), some (.int x2), some (.int x3), some (.int x4)]) (st' := [.int x4, .int x1, .ref 134]) rfl ?_
  by_cases hc5 : x4 = 0
  · rw [if_pos hc5] at h
    refine Q.map (A.zT (gI_of zm226 (e := (140, 3, .ifCond .eq 12, [93])) rfl) (decide_eq_true hc5)) ?_
    refine Q.run zm226 1 (i' := 94) (ls' := [some (.ref 121), some (.int x1), some (.int x2), some (.int x3), some (.int x4)]) (st' := [.ref 121, .int x1, .ref 134]) rfl ?_
    refine Q.map (A.gf (gI_of zm226 (e := (153, 3, .getfield 50, [9, 16])) rfl) (hl4.lt (a := 121) (by decide)) (hl4.T (a := 121) (p := (9, 45)) 43 rfl rfl) (by decide) (hl4.R 36 rfl)) ?_
    refine Q.run zm226 1 (i' := 96) (ls' := [some (.ref 121), some (.int x1), some (.int x2), some (.int x3), some (.int x4)]) (st' := [.int x1, .ref 135, .int x1, .ref 134]) rfl ?_
    obtain ⟨hc6, h⟩ := ite_so h
    refine Q.map (A.ia (gI_of zm226 (e := (157, 1, .iaload, [])) rfl) (hl4.lt (a := 135) (by decide)) (hl4.T (a := 135) (p := (100, 1152)) 57 rfl rfl) hc6) ?_
    refine Q.run zm226 2 (i' := 99) (ls' := [some (.ref 121), some (.int x1), some (.int x2), some (.int x3), some (.int x4)]) (st' := [.int ((sI s2 135 (jN x1)) &&& 8), .int x1, .ref 134]) rfl ?_
    by_cases hc7 : ((sI s2 135 (jN x1)) &&& 8) ≤ 0
    · rw [if_pos hc7] at h
      refine Q.map (A.zT (gI_of zm226 (e := (161, 3, .ifCond .le 12, [105])) rfl) (decide_eq_true hc7)) ?_
      refine Q.run zm226 1 (i' := 106) (ls' := [some (.ref 121), some (.int x1), some (.int x2), some (.int x3), some (.int x4)]) (st' := [.ref 121, .int x1, .ref 134]) rfl ?_
      refine Q.map (A.gf (gI_of zm226 (e := (174, 3, .getfield 47, [9, 15])) rfl) (hl4.lt (a := 121) (by decide)) (hl4.T (a := 121) (p := (9, 45)) 43 rfl rfl) (by decide) (hl4.R 35 rfl)) ?_
      refine Q.run zm226 1 (i' := 108) (ls' := [some (.ref 121), some (.int x1), some (.int x2), some (.int x3), some (.int x4)]) (st' := [.int x1, .ref 134, .int x1, .ref 134]) rfl ?_
      obtain ⟨hc8, h⟩ := ite_so h
      refine Q.map (A.ia (gI_of zm226 (e := (178, 1, .iaload, [])) rfl) (hl4.lt (a := 134) (by decide)) (hl4.T (a := 134) (p := (100, 1152)) 56 rfl rfl) hc8) ?_
      refine Q.run zm226 2 (i' := 111) (ls' := [some (.ref 121), some (.int x1), some (.int x2), some (.int x3), some (.int x4)]) (st' := [.int ((sI s2 134 (jN x1)) + x3), .int x1, .ref 134]) rfl ?_
      exact dt226_111 hd hl4  h
    · rw [if_neg hc7] at h
      refine Q.map (A.zF (gI_of zm226 (e := (161, 3, .ifCond .le 12, [105])) rfl) (fun q => hc7 (of_decide_eq_true q))) ?_
      refine Q.run zm226 1 (i' := 101) (ls' := [some (.ref 121), some (.int x1), some (.int x2), some (.int x3), some (.int x4)]) (st' := [.ref 121, .int x1, .ref 134]) rfl ?_
      refine Q.map (A.gf (gI_of zm226 (e := (165, 3, .getfield 47, [9, 15])) rfl) (hl4.lt (a := 121) (by decide)) (hl4.T (a := 121) (p := (9, 45)) 43 rfl rfl) (by decide) (hl4.R 35 rfl)) ?_
      refine Q.run zm226 1 (i' := 103) (ls' := [some (.ref 121), some (.int x1), some (.int x2), some (.int x3), some (.int x4)]) (st' := [.int x1, .ref 134, .int x1, .ref 134]) rfl ?_
      obtain ⟨hc9, h⟩ := ite_so h
      refine Q.map (A.ia (gI_of zm226 (e := (169, 1, .iaload, [])) rfl) (hl4.lt (a := 134) (by decide)) (hl4.T (a := 134) (p := (100, 1152)) 56 rfl rfl) hc9) ?_
      refine Q.run zm226 1 (i' := 111) (ls' := [some (.ref 121), some (.int x1), some (.int x2), some (.int x3), some (.int x4)]) (st' := [.int (sI s2 134 (jN x1)), .int x1, .ref 134]) rfl ?_
      exact dt226_111 hd hl4  h
  · rw [if_neg hc5] at h
    refine Q.map (A.zF (gI_of zm226 (e := (140, 3, .ifCond .eq 12, [93])) rfl) (fun q => hc5 (of_decide_eq_true q))) ?_
    refine Q.run zm226 1 (i' := 89) (ls' := [some (.ref 121), some (.int x1), some (.int x2), some (.int x3), some (.int x4)]) (st' := [.ref 121, .int x1, .ref 134]) rfl ?_
    refine Q.map (A.gf (gI_of zm226 (e := (144, 3, .getfield 41, [9, 13])) rfl) (hl4.lt (a := 121) (by decide)) (hl4.T (a := 121) (p := (9, 45)) 43 rfl rfl) (by decide) (hl4.R 33 rfl)) ?_
    refine Q.run zm226 1 (i' := 91) (ls' := [some (.ref 121), some (.int x1), some (.int x2), some (.int x3), some (.int x4)]) (st' := [.int x1, .ref 132, .int x1, .ref 134]) rfl ?_
    obtain ⟨hc10, h⟩ := ite_so h
    refine Q.map (A.ia (gI_of zm226 (e := (148, 1, .iaload, [])) rfl) (hl4.lt (a := 132) (by decide)) (hl4.T (a := 132) (p := (100, 1152)) 54 rfl rfl) hc10) ?_
    refine Q.run zm226 1 (i' := 111) (ls' := [some (.ref 121), some (.int x1), some (.int x2), some (.int x3), some (.int x4)]) (st' := [.int (sI s2 132 (jN x1)), .int x1, .ref 134]) rfl ?_
    exact dt226_111 hd hl4  h
def dm226_53 (x1 : Int32) (x2 : Int32) (x3 : Int32) (x4 : Int32) (y1 : Int32) (y2 : Int32) (s : aS) : Option (aS) :=
  if aB y1 1152 then
    nx (wI s 132 (jN y1) y2) fun s2 =>
    if x4 = 0 then
      if aB x1 1152 then
        if ((sI s2 135 (jN x1)) &&& 4) ≤ 0 then
          if aB x1 1152 then
            dm226_82 x1 x3 x4 x1 ((sI s2 133 (jN x1)) + x2) s2
          else none
        else
          if aB x1 1152 then
            dm226_82 x1 x3 x4 x1 (sI s2 133 (jN x1)) s2
          else none
      else none
    else
      if aB x1 1152 then
        dm226_82 x1 x3 x4 x1 (sI s2 131 (jN x1)) s2
      else none
  else none
set_option maxRecDepth 100000 in
theorem dt226_53 {sio : Bool} {tt : Nat} {cc : Nat → Nat → Int32} {d : Nat} (hd : 1 ≤ d) {x1 : Int32} {x2 : Int32} {x3 : Int32} {x4 : Int32} {y1 : Int32} {y2 : Int32} {s : aS} (hl : Ly tt cc s) {o : aS} (h : dm226_53  x1 x2 x3 x4 y1 y2 s = some o) : Q 2 sio tt cc d 226 53 [some (.ref 121), some (.int x1), some (.int x2), some (.int x3), some (.int x4)] [.int y2, .int y1, .ref 132] s (.inl none, o) := by
  unfold dm226_53 at h
  obtain ⟨d, rfl⟩ : ∃ e, d = e + 1 := ⟨d - 1, by omega⟩
  obtain ⟨hc1, h⟩ := ite_so h
  obtain ⟨s2, hs3, h⟩ := nx_so h
  refine Q.is hs3 rfl (gI_of zm226 (e := (84, 1, .iastore, [])) rfl) (hl.lt (a := 132) (by decide)) (by decide) (hl.T (a := 132) (p := (100, 1152)) 54 rfl rfl) hc1 ?_
  have hl4 : Ly tt cc s2 := by rw [hs3]; exact hl.wId (by decide)
  refine Q.run zm226 1 (i' := 55) (ls' := [some (.ref 121), some (.int x1), some (.int x2), some (.int x3), some (.int x4)]) (st' := [.ref 121]) rfl ?_
  refine Q.map (A.gf (gI_of zm226 (e := (86, 3, .getfield 44, [9, 14])) rfl) (hl4.lt (a := 121) (by decide)) (hl4.T (a := 121) (p := (9, 45)) 43 rfl rfl) (by decide) (hl4.R 34 rfl)) ?_
  refine Q.run zm226 2 (i' := 58) (ls' := [some (.ref 121), some (.int x1), some (.int x2), some (.int x3), some (.int x4)]) (st' := [.int x4, .int x1, .ref 133]) rfl ?_
  by_cases hc5 : x4 = 0
  · rw [if_pos hc5] at h
    refine Q.map (A.zT (gI_of zm226 (e := (92, 3, .ifCond .eq 12, [64])) rfl) (decide_eq_true hc5)) ?_
    refine Q.run zm226 1 (i' := 65) (ls' := [some (.ref 121), some (.int x1), some (.int x2), some (.int x3), some (.int x4)]) (st' := [.ref 121, .int x1, .ref 133]) rfl ?_
    refine Q.map (A.gf (gI_of zm226 (e := (105, 3, .getfield 50, [9, 16])) rfl) (hl4.lt (a := 121) (by decide)) (hl4.T (a := 121) (p := (9, 45)) 43 rfl rfl) (by decide) (hl4.R 36 rfl)) ?_
    refine Q.run zm226 1 (i' := 67) (ls' := [some (.ref 121), some (.int x1), some (.int x2), some (.int x3), some (.int x4)]) (st' := [.int x1, .ref 135, .int x1, .ref 133]) rfl ?_
    obtain ⟨hc6, h⟩ := ite_so h
    refine Q.map (A.ia (gI_of zm226 (e := (109, 1, .iaload, [])) rfl) (hl4.lt (a := 135) (by decide)) (hl4.T (a := 135) (p := (100, 1152)) 57 rfl rfl) hc6) ?_
    refine Q.run zm226 2 (i' := 70) (ls' := [some (.ref 121), some (.int x1), some (.int x2), some (.int x3), some (.int x4)]) (st' := [.int ((sI s2 135 (jN x1)) &&& 4), .int x1, .ref 133]) rfl ?_
    by_cases hc7 : ((sI s2 135 (jN x1)) &&& 4) ≤ 0
    · rw [if_pos hc7] at h
      refine Q.map (A.zT (gI_of zm226 (e := (112, 3, .ifCond .le 12, [76])) rfl) (decide_eq_true hc7)) ?_
      refine Q.run zm226 1 (i' := 77) (ls' := [some (.ref 121), some (.int x1), some (.int x2), some (.int x3), some (.int x4)]) (st' := [.ref 121, .int x1, .ref 133]) rfl ?_
      refine Q.map (A.gf (gI_of zm226 (e := (125, 3, .getfield 44, [9, 14])) rfl) (hl4.lt (a := 121) (by decide)) (hl4.T (a := 121) (p := (9, 45)) 43 rfl rfl) (by decide) (hl4.R 34 rfl)) ?_
      refine Q.run zm226 1 (i' := 79) (ls' := [some (.ref 121), some (.int x1), some (.int x2), some (.int x3), some (.int x4)]) (st' := [.int x1, .ref 133, .int x1, .ref 133]) rfl ?_
      obtain ⟨hc8, h⟩ := ite_so h
      refine Q.map (A.ia (gI_of zm226 (e := (129, 1, .iaload, [])) rfl) (hl4.lt (a := 133) (by decide)) (hl4.T (a := 133) (p := (100, 1152)) 55 rfl rfl) hc8) ?_
      refine Q.run zm226 2 (i' := 82) (ls' := [some (.ref 121), some (.int x1), some (.int x2), some (.int x3), some (.int x4)]) (st' := [.int ((sI s2 133 (jN x1)) + x2), .int x1, .ref 133]) rfl ?_
      exact dt226_82 hd hl4  h
    · rw [if_neg hc7] at h
      refine Q.map (A.zF (gI_of zm226 (e := (112, 3, .ifCond .le 12, [76])) rfl) (fun q => hc7 (of_decide_eq_true q))) ?_
      refine Q.run zm226 1 (i' := 72) (ls' := [some (.ref 121), some (.int x1), some (.int x2), some (.int x3), some (.int x4)]) (st' := [.ref 121, .int x1, .ref 133]) rfl ?_
      refine Q.map (A.gf (gI_of zm226 (e := (116, 3, .getfield 44, [9, 14])) rfl) (hl4.lt (a := 121) (by decide)) (hl4.T (a := 121) (p := (9, 45)) 43 rfl rfl) (by decide) (hl4.R 34 rfl)) ?_
      refine Q.run zm226 1 (i' := 74) (ls' := [some (.ref 121), some (.int x1), some (.int x2), some (.int x3), some (.int x4)]) (st' := [.int x1, .ref 133, .int x1, .ref 133]) rfl ?_
      obtain ⟨hc9, h⟩ := ite_so h
      refine Q.map (A.ia (gI_of zm226 (e := (120, 1, .iaload, [])) rfl) (hl4.lt (a := 133) (by decide)) (hl4.T (a := 133) (p := (100, 1152)) 55 rfl rfl) hc9) ?_
      refine Q.run zm226 1 (i' := 82) (ls' := [some (.ref 121), some (.int x1), some (.int x2), some (.int x3), some (.int x4)]) (st' := [.int (sI s2 133 (jN x1)), .int x1, .ref 133]) rfl ?_
      exact dt226_82 hd hl4  h
  · rw [if_neg hc5] at h
    refine Q.map (A.zF (gI_of zm226 (e := (92, 3, .ifCond .eq 12, [64])) rfl) (fun q => hc5 (of_decide_eq_true q))) ?_
    refine Q.run zm226 1 (i' := 60) (ls' := [some (.ref 121), some (.int x1), some (.int x2), some (.int x3), some (.int x4)]) (st' := [.ref 121, .int x1, .ref 133]) rfl ?_
    refine Q.map (A.gf (gI_of zm226 (e := (96, 3, .getfield 38, [9, 12])) rfl) (hl4.lt (a := 121) (by decide)) (hl4.T (a := 121) (p := (9, 45)) 43 rfl rfl) (by decide) (hl4.R 32 rfl)) ?_
    refine Q.run zm226 1 (i' := 62) (ls' := [some (.ref 121), some (.int x1), some (.int x2), some (.int x3), some (.int x4)]) (st' := [.int x1, .ref 131, .int x1, .ref 133]) rfl ?_
    obtain ⟨hc10, h⟩ := ite_so h
    refine Q.map (A.ia (gI_of zm226 (e := (100, 1, .iaload, [])) rfl) (hl4.lt (a := 131) (by decide)) (hl4.T (a := 131) (p := (100, 1152)) 53 rfl rfl) hc10) ?_
    refine Q.run zm226 1 (i' := 82) (ls' := [some (.ref 121), some (.int x1), some (.int x2), some (.int x3), some (.int x4)]) (st' := [.int (sI s2 131 (jN x1)), .int x1, .ref 133]) rfl ?_
    exact dt226_82 hd hl4  h
def dm226_31 (x1 : Int32) (x2 : Int32) (x3 : Int32) (x4 : Int32) (y1 : Int32) (y2 : Int32) (s : aS) : Option (aS) :=
  if aB y1 1152 then
    nx (wI s 131 (jN y1) y2) fun s2 =>
    if aB x1 1152 then
      if ((sI s2 135 (jN x1)) &&& 2) ≤ 0 then
        if aB x1 1152 then
          dm226_53 x1 x2 x3 x4 x1 ((sI s2 132 (jN x1)) + x3) s2
        else none
      else
        if aB x1 1152 then
          dm226_53 x1 x2 x3 x4 x1 (sI s2 132 (jN x1)) s2
        else none
    else none
  else none
set_option maxRecDepth 100000 in
theorem dt226_31 {sio : Bool} {tt : Nat} {cc : Nat → Nat → Int32} {d : Nat} (hd : 1 ≤ d) {x1 : Int32} {x2 : Int32} {x3 : Int32} {x4 : Int32} {y1 : Int32} {y2 : Int32} {s : aS} (hl : Ly tt cc s) {o : aS} (h : dm226_31  x1 x2 x3 x4 y1 y2 s = some o) : Q 2 sio tt cc d 226 31 [some (.ref 121), some (.int x1), some (.int x2), some (.int x3), some (.int x4)] [.int y2, .int y1, .ref 131] s (.inl none, o) := by
  unfold dm226_31 at h
  obtain ⟨d, rfl⟩ : ∃ e, d = e + 1 := ⟨d - 1, by omega⟩
  obtain ⟨hc1, h⟩ := ite_so h
  obtain ⟨s2, hs3, h⟩ := nx_so h
  refine Q.is hs3 rfl (gI_of zm226 (e := (50, 1, .iastore, [])) rfl) (hl.lt (a := 131) (by decide)) (by decide) (hl.T (a := 131) (p := (100, 1152)) 53 rfl rfl) hc1 ?_
  have hl4 : Ly tt cc s2 := by rw [hs3]; exact hl.wId (by decide)
  refine Q.run zm226 1 (i' := 33) (ls' := [some (.ref 121), some (.int x1), some (.int x2), some (.int x3), some (.int x4)]) (st' := [.ref 121]) rfl ?_
  refine Q.map (A.gf (gI_of zm226 (e := (52, 3, .getfield 41, [9, 13])) rfl) (hl4.lt (a := 121) (by decide)) (hl4.T (a := 121) (p := (9, 45)) 43 rfl rfl) (by decide) (hl4.R 33 rfl)) ?_
  refine Q.run zm226 2 (i' := 36) (ls' := [some (.ref 121), some (.int x1), some (.int x2), some (.int x3), some (.int x4)]) (st' := [.ref 121, .int x1, .ref 132]) rfl ?_
  refine Q.map (A.gf (gI_of zm226 (e := (57, 3, .getfield 50, [9, 16])) rfl) (hl4.lt (a := 121) (by decide)) (hl4.T (a := 121) (p := (9, 45)) 43 rfl rfl) (by decide) (hl4.R 36 rfl)) ?_
  refine Q.run zm226 1 (i' := 38) (ls' := [some (.ref 121), some (.int x1), some (.int x2), some (.int x3), some (.int x4)]) (st' := [.int x1, .ref 135, .int x1, .ref 132]) rfl ?_
  obtain ⟨hc5, h⟩ := ite_so h
  refine Q.map (A.ia (gI_of zm226 (e := (61, 1, .iaload, [])) rfl) (hl4.lt (a := 135) (by decide)) (hl4.T (a := 135) (p := (100, 1152)) 57 rfl rfl) hc5) ?_
  refine Q.run zm226 2 (i' := 41) (ls' := [some (.ref 121), some (.int x1), some (.int x2), some (.int x3), some (.int x4)]) (st' := [.int ((sI s2 135 (jN x1)) &&& 2), .int x1, .ref 132]) rfl ?_
  by_cases hc6 : ((sI s2 135 (jN x1)) &&& 2) ≤ 0
  · rw [if_pos hc6] at h
    refine Q.map (A.zT (gI_of zm226 (e := (64, 3, .ifCond .le 12, [47])) rfl) (decide_eq_true hc6)) ?_
    refine Q.run zm226 1 (i' := 48) (ls' := [some (.ref 121), some (.int x1), some (.int x2), some (.int x3), some (.int x4)]) (st' := [.ref 121, .int x1, .ref 132]) rfl ?_
    refine Q.map (A.gf (gI_of zm226 (e := (77, 3, .getfield 41, [9, 13])) rfl) (hl4.lt (a := 121) (by decide)) (hl4.T (a := 121) (p := (9, 45)) 43 rfl rfl) (by decide) (hl4.R 33 rfl)) ?_
    refine Q.run zm226 1 (i' := 50) (ls' := [some (.ref 121), some (.int x1), some (.int x2), some (.int x3), some (.int x4)]) (st' := [.int x1, .ref 132, .int x1, .ref 132]) rfl ?_
    obtain ⟨hc7, h⟩ := ite_so h
    refine Q.map (A.ia (gI_of zm226 (e := (81, 1, .iaload, [])) rfl) (hl4.lt (a := 132) (by decide)) (hl4.T (a := 132) (p := (100, 1152)) 54 rfl rfl) hc7) ?_
    refine Q.run zm226 2 (i' := 53) (ls' := [some (.ref 121), some (.int x1), some (.int x2), some (.int x3), some (.int x4)]) (st' := [.int ((sI s2 132 (jN x1)) + x3), .int x1, .ref 132]) rfl ?_
    exact dt226_53 hd hl4  h
  · rw [if_neg hc6] at h
    refine Q.map (A.zF (gI_of zm226 (e := (64, 3, .ifCond .le 12, [47])) rfl) (fun q => hc6 (of_decide_eq_true q))) ?_
    refine Q.run zm226 1 (i' := 43) (ls' := [some (.ref 121), some (.int x1), some (.int x2), some (.int x3), some (.int x4)]) (st' := [.ref 121, .int x1, .ref 132]) rfl ?_
    refine Q.map (A.gf (gI_of zm226 (e := (68, 3, .getfield 41, [9, 13])) rfl) (hl4.lt (a := 121) (by decide)) (hl4.T (a := 121) (p := (9, 45)) 43 rfl rfl) (by decide) (hl4.R 33 rfl)) ?_
    refine Q.run zm226 1 (i' := 45) (ls' := [some (.ref 121), some (.int x1), some (.int x2), some (.int x3), some (.int x4)]) (st' := [.int x1, .ref 132, .int x1, .ref 132]) rfl ?_
    obtain ⟨hc8, h⟩ := ite_so h
    refine Q.map (A.ia (gI_of zm226 (e := (72, 1, .iaload, [])) rfl) (hl4.lt (a := 132) (by decide)) (hl4.T (a := 132) (p := (100, 1152)) 54 rfl rfl) hc8) ?_
    refine Q.run zm226 1 (i' := 53) (ls' := [some (.ref 121), some (.int x1), some (.int x2), some (.int x3), some (.int x4)]) (st' := [.int (sI s2 132 (jN x1)), .int x1, .ref 132]) rfl ?_
    exact dt226_53 hd hl4  h
def dm226_9 (x1 : Int32) (x2 : Int32) (x3 : Int32) (y0 : Int32) (s : aS) : Option (aS) :=
  if aB x1 1152 then
    if ((sI s 135 (jN x1)) &&& 1) ≤ 0 then
      if aB x1 1152 then
        dm226_31 x1 x2 x3 y0 x1 ((sI s 131 (jN x1)) + x2) s
      else none
    else
      if aB x1 1152 then
        dm226_31 x1 x2 x3 y0 x1 (sI s 131 (jN x1)) s
      else none
  else none
set_option maxRecDepth 100000 in
theorem dt226_9 {sio : Bool} {tt : Nat} {cc : Nat → Nat → Int32} {d : Nat} (hd : 1 ≤ d) {x1 : Int32} {x2 : Int32} {x3 : Int32} {y0 : Int32} {s : aS} (hl : Ly tt cc s) {o : aS} (h : dm226_9  x1 x2 x3 y0 s = some o) : Q 2 sio tt cc d 226 9 [some (.ref 121), some (.int x1), some (.int x2), some (.int x3), none] [.int y0] s (.inl none, o) := by
  unfold dm226_9 at h
  obtain ⟨d, rfl⟩ : ∃ e, d = e + 1 := ⟨d - 1, by omega⟩
  refine Q.run zm226 2 (i' := 11) (ls' := [some (.ref 121), some (.int x1), some (.int x2), some (.int x3), some (.int y0)]) (st' := [.ref 121]) rfl ?_
  refine Q.map (A.gf (gI_of zm226 (e := (18, 3, .getfield 38, [9, 12])) rfl) (hl.lt (a := 121) (by decide)) (hl.T (a := 121) (p := (9, 45)) 43 rfl rfl) (by decide) (hl.R 32 rfl)) ?_
  refine Q.run zm226 2 (i' := 14) (ls' := [some (.ref 121), some (.int x1), some (.int x2), some (.int x3), some (.int y0)]) (st' := [.ref 121, .int x1, .ref 131]) rfl ?_
  refine Q.map (A.gf (gI_of zm226 (e := (23, 3, .getfield 50, [9, 16])) rfl) (hl.lt (a := 121) (by decide)) (hl.T (a := 121) (p := (9, 45)) 43 rfl rfl) (by decide) (hl.R 36 rfl)) ?_
  refine Q.run zm226 1 (i' := 16) (ls' := [some (.ref 121), some (.int x1), some (.int x2), some (.int x3), some (.int y0)]) (st' := [.int x1, .ref 135, .int x1, .ref 131]) rfl ?_
  obtain ⟨hc1, h⟩ := ite_so h
  refine Q.map (A.ia (gI_of zm226 (e := (27, 1, .iaload, [])) rfl) (hl.lt (a := 135) (by decide)) (hl.T (a := 135) (p := (100, 1152)) 57 rfl rfl) hc1) ?_
  refine Q.run zm226 2 (i' := 19) (ls' := [some (.ref 121), some (.int x1), some (.int x2), some (.int x3), some (.int y0)]) (st' := [.int ((sI s 135 (jN x1)) &&& 1), .int x1, .ref 131]) rfl ?_
  by_cases hc2 : ((sI s 135 (jN x1)) &&& 1) ≤ 0
  · rw [if_pos hc2] at h
    refine Q.map (A.zT (gI_of zm226 (e := (30, 3, .ifCond .le 12, [25])) rfl) (decide_eq_true hc2)) ?_
    refine Q.run zm226 1 (i' := 26) (ls' := [some (.ref 121), some (.int x1), some (.int x2), some (.int x3), some (.int y0)]) (st' := [.ref 121, .int x1, .ref 131]) rfl ?_
    refine Q.map (A.gf (gI_of zm226 (e := (43, 3, .getfield 38, [9, 12])) rfl) (hl.lt (a := 121) (by decide)) (hl.T (a := 121) (p := (9, 45)) 43 rfl rfl) (by decide) (hl.R 32 rfl)) ?_
    refine Q.run zm226 1 (i' := 28) (ls' := [some (.ref 121), some (.int x1), some (.int x2), some (.int x3), some (.int y0)]) (st' := [.int x1, .ref 131, .int x1, .ref 131]) rfl ?_
    obtain ⟨hc3, h⟩ := ite_so h
    refine Q.map (A.ia (gI_of zm226 (e := (47, 1, .iaload, [])) rfl) (hl.lt (a := 131) (by decide)) (hl.T (a := 131) (p := (100, 1152)) 53 rfl rfl) hc3) ?_
    refine Q.run zm226 2 (i' := 31) (ls' := [some (.ref 121), some (.int x1), some (.int x2), some (.int x3), some (.int y0)]) (st' := [.int ((sI s 131 (jN x1)) + x2), .int x1, .ref 131]) rfl ?_
    exact dt226_31 hd hl  h
  · rw [if_neg hc2] at h
    refine Q.map (A.zF (gI_of zm226 (e := (30, 3, .ifCond .le 12, [25])) rfl) (fun q => hc2 (of_decide_eq_true q))) ?_
    refine Q.run zm226 1 (i' := 21) (ls' := [some (.ref 121), some (.int x1), some (.int x2), some (.int x3), some (.int y0)]) (st' := [.ref 121, .int x1, .ref 131]) rfl ?_
    refine Q.map (A.gf (gI_of zm226 (e := (34, 3, .getfield 38, [9, 12])) rfl) (hl.lt (a := 121) (by decide)) (hl.T (a := 121) (p := (9, 45)) 43 rfl rfl) (by decide) (hl.R 32 rfl)) ?_
    refine Q.run zm226 1 (i' := 23) (ls' := [some (.ref 121), some (.int x1), some (.int x2), some (.int x3), some (.int y0)]) (st' := [.int x1, .ref 131, .int x1, .ref 131]) rfl ?_
    obtain ⟨hc4, h⟩ := ite_so h
    refine Q.map (A.ia (gI_of zm226 (e := (38, 1, .iaload, [])) rfl) (hl.lt (a := 131) (by decide)) (hl.T (a := 131) (p := (100, 1152)) 53 rfl rfl) hc4) ?_
    refine Q.run zm226 1 (i' := 31) (ls' := [some (.ref 121), some (.int x1), some (.int x2), some (.int x3), some (.int y0)]) (st' := [.int (sI s 131 (jN x1)), .int x1, .ref 131]) rfl ?_
    exact dt226_31 hd hl  h
def dm226 (x1 : Int32) (x2 : Int32) (x3 : Int32) (s : aS) : Option (aS) :=
  if aB x1 1152 then
    if (sI s 128 (jN x1)) = 4 then
      dm226_9 x1 x2 x3 1 s
    else
      dm226_9 x1 x2 x3 0 s
  else none
set_option maxRecDepth 100000 in
theorem dt226 {sio : Bool} {tt : Nat} {cc : Nat → Nat → Int32} {d : Nat} (hd : 1 ≤ d) {x1 : Int32} {x2 : Int32} {x3 : Int32} {s : aS} (hl : Ly tt cc s) {o : aS} (h : dm226  x1 x2 x3 s = some o) : Q 2 sio tt cc d 226 0 [some (.ref 121), some (.int x1), some (.int x2), some (.int x3), none] [] s (.inl none, o) := by
  unfold dm226 at h
  obtain ⟨d, rfl⟩ : ∃ e, d = e + 1 := ⟨d - 1, by omega⟩
  refine Q.run zm226 1 (i' := 1) (ls' := [some (.ref 121), some (.int x1), some (.int x2), some (.int x3), none]) (st' := [.ref 121]) rfl ?_
  refine Q.map (A.gf (gI_of zm226 (e := (1, 3, .getfield 29, [9, 9])) rfl) (hl.lt (a := 121) (by decide)) (hl.T (a := 121) (p := (9, 45)) 43 rfl rfl) (by decide) (hl.R 29 rfl)) ?_
  refine Q.run zm226 1 (i' := 3) (ls' := [some (.ref 121), some (.int x1), some (.int x2), some (.int x3), none]) (st' := [.int x1, .ref 128]) rfl ?_
  obtain ⟨hc1, h⟩ := ite_so h
  refine Q.map (A.ia (gI_of zm226 (e := (5, 1, .iaload, [])) rfl) (hl.lt (a := 128) (by decide)) (hl.T (a := 128) (p := (100, 1152)) 50 rfl rfl) hc1) ?_
  refine Q.run zm226 1 (i' := 5) (ls' := [some (.ref 121), some (.int x1), some (.int x2), some (.int x3), none]) (st' := [.int 4, .int (sI s 128 (jN x1))]) rfl ?_
  by_cases hc2 : (sI s 128 (jN x1)) = 4
  · rw [if_pos hc2] at h
    refine Q.map (A.bF (gI_of zm226 (e := (7, 3, .if_icmp .ne 7, [8])) rfl) (fun q => of_decide_eq_true q hc2)) ?_
    refine Q.run zm226 2 (i' := 9) (ls' := [some (.ref 121), some (.int x1), some (.int x2), some (.int x3), none]) (st' := [.int 1]) rfl ?_
    exact dt226_9 hd hl  h
  · rw [if_neg hc2] at h
    refine Q.map (A.bT (gI_of zm226 (e := (7, 3, .if_icmp .ne 7, [8])) rfl) (decide_eq_true hc2)) ?_
    refine Q.run zm226 1 (i' := 9) (ls' := [some (.ref 121), some (.int x1), some (.int x2), some (.int x3), none]) (st' := [.int 0]) rfl ?_
    exact dt226_9 hd hl  h
end
section
/-! 224 FormulaTreesModel.move(IIIII)V -/
set_option maxRecDepth 100000 in
theorem zm224 : zP[224]? = some zM224 := rfl
def dm224_85 : Nat → Int32 → Int32 → Int32 → Int32 → aS → Option (aS)
  | 0, _, _, _, _, _ => none
  | n + 1, x1, x4, x5, x7, s =>
    if 256 ≤ x7 then
      if aB x1 9 then
        if aB x5 9 then
          nx (wI s 127 (jN x5) (sI s 127 (jN x1))) fun s4 =>
          if aB x5 8 then
            nx (wI s4 125 (jN x5) ((1 : Int32) &&& 1)) fun s8 =>
            if aB x5 8 then
              nx (wI s8 126 (jN x5) x4) fun s12 =>
              some s12
            else none
          else none
        else none
      else none
    else
      if aB ((256 * x1) + x7) 2304 then
        if aB ((256 * x5) + x7) 2304 then
          nx (wI s 139 (jN ((256 * x5) + x7)) (sI s 139 (jN ((256 * x1) + x7)))) fun s17 =>
          dm224_85 n x1 x4 x5 (x7 + 1) s17
        else none
      else none
set_option maxRecDepth 100000 in
theorem dt224_85 {sio : Bool} {tt : Nat} {cc : Nat → Nat → Int32} {d : Nat} (hd : 2 ≤ d) : ∀ (n : Nat) {x1 : Int32} {x4 : Int32} {x5 : Int32} {x7 : Int32} {x2 : Int32} {x3 : Int32} {x6 : Int32} {g8 : Option Value} {s : aS} (_ : Ly tt cc s) {o : aS} (_ : dm224_85  n x1 x4 x5 x7 s = some o), Q 2 sio tt cc d 224 85 [some (.ref 121), some (.int x1), some (.int x2), some (.int x3), some (.int x4), some (.int x5), some (.int x6), some (.int x7), g8] [] s (.inl none, o) := by
  obtain ⟨d, rfl⟩ : ∃ e, d = e + 1 := ⟨d - 1, by omega⟩
  intro n
  induction n with
  | zero => intro x1 x4 x5 x7 x2 x3 x6 g8 s hl o h; rw [dm224_85] at h; cases h
  | succ n ih =>
    intro x1 x4 x5 x7 x2 x3 x6 g8 s hl o h
    rw [dm224_85] at h
    refine Q.run zm224 2 (i' := 87) (ls' := [some (.ref 121), some (.int x1), some (.int x2), some (.int x3), some (.int x4), some (.int x5), some (.int x6), some (.int x7), g8]) (st' := [.int 256, .int x7]) rfl ?_
    by_cases hc1 : 256 ≤ x7
    · rw [if_pos hc1] at h
      refine Q.map (A.bT (gI_of zm224 (e := (171, 3, .if_icmp .ge 36, [106])) rfl) (decide_eq_true hc1)) ?_
      refine Q.run zm224 1 (i' := 107) (ls' := [some (.ref 121), some (.int x1), some (.int x2), some (.int x3), some (.int x4), some (.int x5), some (.int x6), some (.int x7), g8]) (st' := [.ref 121]) rfl ?_
      refine Q.map (A.gf (gI_of zm224 (e := (208, 3, .getfield 26, [9, 8])) rfl) (hl.lt (a := 121) (by decide)) (hl.T (a := 121) (p := (9, 45)) 43 rfl rfl) (by decide) (hl.R 28 rfl)) ?_
      refine Q.run zm224 2 (i' := 110) (ls' := [some (.ref 121), some (.int x1), some (.int x2), some (.int x3), some (.int x4), some (.int x5), some (.int x6), some (.int x7), g8]) (st' := [.ref 121, .int x5, .ref 127]) rfl ?_
      refine Q.map (A.gf (gI_of zm224 (e := (214, 3, .getfield 26, [9, 8])) rfl) (hl.lt (a := 121) (by decide)) (hl.T (a := 121) (p := (9, 45)) 43 rfl rfl) (by decide) (hl.R 28 rfl)) ?_
      refine Q.run zm224 1 (i' := 112) (ls' := [some (.ref 121), some (.int x1), some (.int x2), some (.int x3), some (.int x4), some (.int x5), some (.int x6), some (.int x7), g8]) (st' := [.int x1, .ref 127, .int x5, .ref 127]) rfl ?_
      obtain ⟨hc2, h⟩ := ite_so h
      refine Q.map (A.ia (gI_of zm224 (e := (218, 1, .iaload, [])) rfl) (hl.lt (a := 127) (by decide)) (hl.T (a := 127) (p := (100, 9)) 49 rfl rfl) hc2) ?_
      obtain ⟨hc3, h⟩ := ite_so h
      obtain ⟨s4, hs5, h⟩ := nx_so h
      refine Q.is hs5 rfl (gI_of zm224 (e := (219, 1, .iastore, [])) rfl) (hl.lt (a := 127) (by decide)) (by decide) (hl.T (a := 127) (p := (100, 9)) 49 rfl rfl) hc3 ?_
      have hl6 : Ly tt cc s4 := by rw [hs5]; exact hl.wId (by decide)
      refine Q.run zm224 1 (i' := 115) (ls' := [some (.ref 121), some (.int x1), some (.int x2), some (.int x3), some (.int x4), some (.int x5), some (.int x6), some (.int x7), g8]) (st' := [.ref 121]) rfl ?_
      refine Q.map (A.gf (gI_of zm224 (e := (221, 3, .getfield 19, [9, 6])) rfl) (hl6.lt (a := 121) (by decide)) (hl6.T (a := 121) (p := (9, 45)) 43 rfl rfl) (by decide) (hl6.R 26 rfl)) ?_
      refine Q.run zm224 2 (i' := 118) (ls' := [some (.ref 121), some (.int x1), some (.int x2), some (.int x3), some (.int x4), some (.int x5), some (.int x6), some (.int x7), g8]) (st' := [.int 1, .int x5, .ref 125]) rfl ?_
      obtain ⟨hc7, h⟩ := ite_so h
      obtain ⟨s8, hs9, h⟩ := nx_so h
      refine Q.bs hs9 rfl (gI_of zm224 (e := (227, 1, .bastore, [])) rfl) (hl6.lt (a := 125) (by decide)) (by decide) (hl6.T (a := 125) (p := (103, 8)) 47 rfl rfl) hc7 ?_
      have hl10 : Ly tt cc s8 := by rw [hs9]; exact hl6.wId (by decide)
      refine Q.run zm224 1 (i' := 120) (ls' := [some (.ref 121), some (.int x1), some (.int x2), some (.int x3), some (.int x4), some (.int x5), some (.int x6), some (.int x7), g8]) (st' := [.ref 121]) rfl ?_
      refine Q.map (A.gf (gI_of zm224 (e := (229, 3, .getfield 23, [9, 7])) rfl) (hl10.lt (a := 121) (by decide)) (hl10.T (a := 121) (p := (9, 45)) 43 rfl rfl) (by decide) (hl10.R 27 rfl)) ?_
      refine Q.run zm224 2 (i' := 123) (ls' := [some (.ref 121), some (.int x1), some (.int x2), some (.int x3), some (.int x4), some (.int x5), some (.int x6), some (.int x7), g8]) (st' := [.int x4, .int x5, .ref 126]) rfl ?_
      obtain ⟨hc11, h⟩ := ite_so h
      obtain ⟨s12, hs13, h⟩ := nx_so h
      refine Q.is hs13 rfl (gI_of zm224 (e := (236, 1, .iastore, [])) rfl) (hl10.lt (a := 126) (by decide)) (by decide) (hl10.T (a := 126) (p := (100, 8)) 48 rfl rfl) hc11 ?_
      have hl14 : Ly tt cc s12 := by rw [hs13]; exact hl10.wId (by decide)
      cases h
      exact Q.ret (A.rv zm224 (show zM224.2.2.2.2.2[124]? = some (237, 1, .return_, []) from rfl) rfl) hl14
    · rw [if_neg hc1] at h
      refine Q.map (A.bF (gI_of zm224 (e := (171, 3, .if_icmp .ge 36, [106])) rfl) (fun q => hc1 (of_decide_eq_true q))) ?_
      refine Q.run zm224 1 (i' := 89) (ls' := [some (.ref 121), some (.int x1), some (.int x2), some (.int x3), some (.int x4), some (.int x5), some (.int x6), some (.int x7), g8]) (st' := [.ref 121]) rfl ?_
      refine Q.map (A.gf (gI_of zm224 (e := (175, 3, .getfield 62, [9, 20])) rfl) (hl.lt (a := 121) (by decide)) (hl.T (a := 121) (p := (9, 45)) 43 rfl rfl) (by decide) (hl.R 40 rfl)) ?_
      refine Q.run zm224 6 (i' := 96) (ls' := [some (.ref 121), some (.int x1), some (.int x2), some (.int x3), some (.int x4), some (.int x5), some (.int x6), some (.int x7), g8]) (st' := [.ref 121, .int ((256 * x5) + x7), .ref 139]) rfl ?_
      refine Q.map (A.gf (gI_of zm224 (e := (188, 3, .getfield 62, [9, 20])) rfl) (hl.lt (a := 121) (by decide)) (hl.T (a := 121) (p := (9, 45)) 43 rfl rfl) (by decide) (hl.R 40 rfl)) ?_
      refine Q.run zm224 5 (i' := 102) (ls' := [some (.ref 121), some (.int x1), some (.int x2), some (.int x3), some (.int x4), some (.int x5), some (.int x6), some (.int x7), g8]) (st' := [.int ((256 * x1) + x7), .ref 139, .int ((256 * x5) + x7), .ref 139]) rfl ?_
      obtain ⟨hc15, h⟩ := ite_so h
      refine Q.map (A.ia (gI_of zm224 (e := (199, 1, .iaload, [])) rfl) (hl.lt (a := 139) (by decide)) (hl.T (a := 139) (p := (100, 2304)) 61 rfl rfl) hc15) ?_
      obtain ⟨hc16, h⟩ := ite_so h
      obtain ⟨s17, hs18, h⟩ := nx_so h
      refine Q.is hs18 rfl (gI_of zm224 (e := (200, 1, .iastore, [])) rfl) (hl.lt (a := 139) (by decide)) (by decide) (hl.T (a := 139) (p := (100, 2304)) 61 rfl rfl) hc16 ?_
      have hl19 : Ly tt cc s17 := by rw [hs18]; exact hl.wId (by decide)
      refine Q.run zm224 2 (i' := 85) (ls' := [some (.ref 121), some (.int x1), some (.int x2), some (.int x3), some (.int x4), some (.int x5), some (.int x6), some (.int (x7 + 1)), g8]) (st' := []) rfl ?_
      exact ih hl19  h
def dm224_81 (k44 : Int32 → Int32 → Int32 → Int32 → Int32 → Int32 → aS → Option (aS)) (x1 : Int32) (x2 : Int32) (x3 : Int32) (x4 : Int32) (x5 : Int32) (x7 : Int32) (s : aS) : Option (aS) :=
  k44 x1 x2 x3 x4 x5 (x7 + 1) s
set_option maxRecDepth 100000 in
theorem dt224_81 {sio : Bool} {tt : Nat} {cc : Nat → Nat → Int32} {d : Nat} (hd : 2 ≤ d) {k44 : Int32 → Int32 → Int32 → Int32 → Int32 → Int32 → aS → Option (aS)} (hk44 : ∀ {x1 : Int32} {x2 : Int32} {x3 : Int32} {x4 : Int32} {x5 : Int32} {x7 : Int32} {x6 : Int32} {g8 : Option Value} {s : aS}, Ly tt cc s → ∀ {o : aS}, k44 x1 x2 x3 x4 x5 x7 s = some o → Q 2 sio tt cc d 224 44 [some (.ref 121), some (.int x1), some (.int x2), some (.int x3), some (.int x4), some (.int x5), some (.int x6), some (.int x7), g8] [] s (.inl none, o)) {x1 : Int32} {x2 : Int32} {x3 : Int32} {x4 : Int32} {x5 : Int32} {x7 : Int32} {x6 : Int32} {x8 : Int32} {s : aS} (hl : Ly tt cc s) {o : aS} (h : dm224_81 k44 x1 x2 x3 x4 x5 x7 s = some o) : Q 2 sio tt cc d 224 81 [some (.ref 121), some (.int x1), some (.int x2), some (.int x3), some (.int x4), some (.int x5), some (.int x6), some (.int x7), some (.int x8)] [] s (.inl none, o) := by
  unfold dm224_81 at h
  obtain ⟨d, rfl⟩ : ∃ e, d = e + 1 := ⟨d - 1, by omega⟩
  refine Q.run zm224 2 (i' := 44) (ls' := [some (.ref 121), some (.int x1), some (.int x2), some (.int x3), some (.int x4), some (.int x5), some (.int x6), some (.int (x7 + 1)), some (.int x8)]) (st' := []) rfl ?_
  exact hk44 hl  h
def dm224_76 (k44 : Int32 → Int32 → Int32 → Int32 → Int32 → Int32 → aS → Option (aS)) (x1 : Int32) (x2 : Int32) (x3 : Int32) (x4 : Int32) (x5 : Int32) (x7 : Int32) (x8 : Int32) (s : aS) : Option (aS) :=
  bu (dm226 x8 x2 x3 s) fun s3 =>
  dm224_81 k44 x1 x2 x3 x4 x5 x7 s3
set_option maxRecDepth 100000 in
theorem dt224_76 {sio : Bool} {tt : Nat} {cc : Nat → Nat → Int32} {d : Nat} (hd : 2 ≤ d) {k44 : Int32 → Int32 → Int32 → Int32 → Int32 → Int32 → aS → Option (aS)} (hk44 : ∀ {x1 : Int32} {x2 : Int32} {x3 : Int32} {x4 : Int32} {x5 : Int32} {x7 : Int32} {x6 : Int32} {g8 : Option Value} {s : aS}, Ly tt cc s → ∀ {o : aS}, k44 x1 x2 x3 x4 x5 x7 s = some o → Q 2 sio tt cc d 224 44 [some (.ref 121), some (.int x1), some (.int x2), some (.int x3), some (.int x4), some (.int x5), some (.int x6), some (.int x7), g8] [] s (.inl none, o)) {x1 : Int32} {x2 : Int32} {x3 : Int32} {x4 : Int32} {x5 : Int32} {x7 : Int32} {x8 : Int32} {x6 : Int32} {s : aS} (hl : Ly tt cc s) {o : aS} (h : dm224_76 k44 x1 x2 x3 x4 x5 x7 x8 s = some o) : Q 2 sio tt cc d 224 76 [some (.ref 121), some (.int x1), some (.int x2), some (.int x3), some (.int x4), some (.int x5), some (.int x6), some (.int x7), some (.int x8)] [] s (.inl none, o) := by
  unfold dm224_76 at h
  obtain ⟨d, rfl⟩ : ∃ e, d = e + 1 := ⟨d - 1, by omega⟩
  refine Q.run zm224 4 (i' := 80) (ls' := [some (.ref 121), some (.int x1), some (.int x2), some (.int x3), some (.int x4), some (.int x5), some (.int x6), some (.int x7), some (.int x8)]) (st' := [.int x3, .int x2, .int x8, .ref 121]) rfl ?_
  obtain ⟨s3, hc2, h⟩ := bu_so h
  have hq1 : Q 2 sio tt cc d 226 0 [some (.ref 121), some (.int x8), some (.int x2), some (.int x3), none] [] s (.inl none, s3) := dt226 (by omega) hl  hc2
  refine Q.callV (gC_vi zm224 (show zM224.2.2.2.2.2[80]? = some (154, 3, .invokevirtual 313, [0, 226, 3, 9]) from rfl) zm226 (hl.lt (a := 121) (by decide)) (hl.T (a := 121) (p := (9, 45)) 43 rfl rfl) rfl (show aCr 3 121 [.int x3, .int x2, .int x8, .ref 121] 5 = some ([some (.ref 121), some (.int x8), some (.int x2), some (.int x3), none], []) from rfl)) hq1 ?_
  exact dt224_81 hd hk44 hq1.1  h
def dm224_44 : Nat → Int32 → Int32 → Int32 → Int32 → Int32 → Int32 → aS → Option (aS)
  | 0, _, _, _, _, _, _, _ => none
  | n + 1, x1, x2, x3, x4, x5, x7, s =>
    if aB x1 9 then
      if (sI s 127 (jN x1)) ≤ x7 then
        dm224_85 5000 x1 x4 x5 0 s
      else
        bu (dm223 ((128 * x1) + x7) ((128 * x5) + x7) s) fun s5 =>
        if aB ((128 * x5) + x7) 1152 then
          if (sI s5 128 (jN ((128 * x5) + x7))) = 4 then
            dm224_76 (dm224_44 n) x1 x2 x3 x4 x5 x7 ((128 * x5) + x7) s5
          else
            if aB ((128 * x5) + x7) 1152 then
              if (sI s5 128 (jN ((128 * x5) + x7))) = 5 then
                dm224_76 (dm224_44 n) x1 x2 x3 x4 x5 x7 ((128 * x5) + x7) s5
              else
                dm224_81 (dm224_44 n) x1 x2 x3 x4 x5 x7 s5
            else none
        else none
    else none
set_option maxRecDepth 100000 in
theorem dt224_44 {sio : Bool} {tt : Nat} {cc : Nat → Nat → Int32} {d : Nat} (hd : 2 ≤ d) : ∀ (n : Nat) {x1 : Int32} {x2 : Int32} {x3 : Int32} {x4 : Int32} {x5 : Int32} {x7 : Int32} {x6 : Int32} {g8 : Option Value} {s : aS} (_ : Ly tt cc s) {o : aS} (_ : dm224_44  n x1 x2 x3 x4 x5 x7 s = some o), Q 2 sio tt cc d 224 44 [some (.ref 121), some (.int x1), some (.int x2), some (.int x3), some (.int x4), some (.int x5), some (.int x6), some (.int x7), g8] [] s (.inl none, o) := by
  obtain ⟨d, rfl⟩ : ∃ e, d = e + 1 := ⟨d - 1, by omega⟩
  intro n
  induction n with
  | zero => intro x1 x2 x3 x4 x5 x7 x6 g8 s hl o h; rw [dm224_44] at h; cases h
  | succ n ih =>
    intro x1 x2 x3 x4 x5 x7 x6 g8 s hl o h
    rw [dm224_44] at h
    refine Q.run zm224 2 (i' := 46) (ls' := [some (.ref 121), some (.int x1), some (.int x2), some (.int x3), some (.int x4), some (.int x5), some (.int x6), some (.int x7), g8]) (st' := [.ref 121, .int x7]) rfl ?_
    refine Q.map (A.gf (gI_of zm224 (e := (94, 3, .getfield 26, [9, 8])) rfl) (hl.lt (a := 121) (by decide)) (hl.T (a := 121) (p := (9, 45)) 43 rfl rfl) (by decide) (hl.R 28 rfl)) ?_
    refine Q.run zm224 1 (i' := 48) (ls' := [some (.ref 121), some (.int x1), some (.int x2), some (.int x3), some (.int x4), some (.int x5), some (.int x6), some (.int x7), g8]) (st' := [.int x1, .ref 127, .int x7]) rfl ?_
    obtain ⟨hc1, h⟩ := ite_so h
    refine Q.map (A.ia (gI_of zm224 (e := (98, 1, .iaload, [])) rfl) (hl.lt (a := 127) (by decide)) (hl.T (a := 127) (p := (100, 9)) 49 rfl rfl) hc1) ?_
    by_cases hc2 : (sI s 127 (jN x1)) ≤ x7
    · rw [if_pos hc2] at h
      refine Q.map (A.bT (gI_of zm224 (e := (99, 3, .if_icmp .ge 64, [83])) rfl) (decide_eq_true hc2)) ?_
      refine Q.run zm224 2 (i' := 85) (ls' := [some (.ref 121), some (.int x1), some (.int x2), some (.int x3), some (.int x4), some (.int x5), some (.int x6), some (.int 0), g8]) (st' := []) rfl ?_
      exact dt224_85 hd _ hl  h
    · rw [if_neg hc2] at h
      refine Q.map (A.bF (gI_of zm224 (e := (99, 3, .if_icmp .ge 64, [83])) rfl) (fun q => hc2 (of_decide_eq_true q))) ?_
      refine Q.run zm224 13 (i' := 63) (ls' := [some (.ref 121), some (.int x1), some (.int x2), some (.int x3), some (.int x4), some (.int x5), some (.int x6), some (.int x7), some (.int ((128 * x5) + x7))]) (st' := [.int ((128 * x5) + x7), .int ((128 * x1) + x7), .ref 121]) rfl ?_
      obtain ⟨s5, hc4, h⟩ := bu_so h
      have hq3 : Q 2 sio tt cc d 223 0 [some (.ref 121), some (.int ((128 * x1) + x7)), some (.int ((128 * x5) + x7))] [] s (.inl none, s5) := dt223 (by omega) hl  hc4
      refine Q.callV (gC_vi zm224 (show zM224.2.2.2.2.2[63]? = some (124, 3, .invokevirtual 297, [0, 223, 2, 9]) from rfl) zm223 (hl.lt (a := 121) (by decide)) (hl.T (a := 121) (p := (9, 45)) 43 rfl rfl) rfl (show aCr 2 121 [.int ((128 * x5) + x7), .int ((128 * x1) + x7), .ref 121] 3 = some ([some (.ref 121), some (.int ((128 * x1) + x7)), some (.int ((128 * x5) + x7))], []) from rfl)) hq3 ?_
      refine Q.run zm224 1 (i' := 65) (ls' := [some (.ref 121), some (.int x1), some (.int x2), some (.int x3), some (.int x4), some (.int x5), some (.int x6), some (.int x7), some (.int ((128 * x5) + x7))]) (st' := [.ref 121]) rfl ?_
      refine Q.map (A.gf (gI_of zm224 (e := (128, 3, .getfield 29, [9, 9])) rfl) (hq3.1.lt (a := 121) (by decide)) (hq3.1.T (a := 121) (p := (9, 45)) 43 rfl rfl) (by decide) (hq3.1.R 29 rfl)) ?_
      refine Q.run zm224 1 (i' := 67) (ls' := [some (.ref 121), some (.int x1), some (.int x2), some (.int x3), some (.int x4), some (.int x5), some (.int x6), some (.int x7), some (.int ((128 * x5) + x7))]) (st' := [.int ((128 * x5) + x7), .ref 128]) rfl ?_
      obtain ⟨hc6, h⟩ := ite_so h
      refine Q.map (A.ia (gI_of zm224 (e := (133, 1, .iaload, [])) rfl) (hq3.1.lt (a := 128) (by decide)) (hq3.1.T (a := 128) (p := (100, 1152)) 50 rfl rfl) hc6) ?_
      refine Q.run zm224 1 (i' := 69) (ls' := [some (.ref 121), some (.int x1), some (.int x2), some (.int x3), some (.int x4), some (.int x5), some (.int x6), some (.int x7), some (.int ((128 * x5) + x7))]) (st' := [.int 4, .int (sI s5 128 (jN ((128 * x5) + x7)))]) rfl ?_
      by_cases hc7 : (sI s5 128 (jN ((128 * x5) + x7))) = 4
      · rw [if_pos hc7] at h
        refine Q.map (A.bT (gI_of zm224 (e := (135, 3, .if_icmp .eq 14, [76])) rfl) (decide_eq_true hc7)) ?_
        exact dt224_76 hd ih hq3.1  h
      · rw [if_neg hc7] at h
        refine Q.map (A.bF (gI_of zm224 (e := (135, 3, .if_icmp .eq 14, [76])) rfl) (fun q => hc7 (of_decide_eq_true q))) ?_
        refine Q.run zm224 1 (i' := 71) (ls' := [some (.ref 121), some (.int x1), some (.int x2), some (.int x3), some (.int x4), some (.int x5), some (.int x6), some (.int x7), some (.int ((128 * x5) + x7))]) (st' := [.ref 121]) rfl ?_
        refine Q.map (A.gf (gI_of zm224 (e := (139, 3, .getfield 29, [9, 9])) rfl) (hq3.1.lt (a := 121) (by decide)) (hq3.1.T (a := 121) (p := (9, 45)) 43 rfl rfl) (by decide) (hq3.1.R 29 rfl)) ?_
        refine Q.run zm224 1 (i' := 73) (ls' := [some (.ref 121), some (.int x1), some (.int x2), some (.int x3), some (.int x4), some (.int x5), some (.int x6), some (.int x7), some (.int ((128 * x5) + x7))]) (st' := [.int ((128 * x5) + x7), .ref 128]) rfl ?_
        obtain ⟨hc8, h⟩ := ite_so h
        refine Q.map (A.ia (gI_of zm224 (e := (144, 1, .iaload, [])) rfl) (hq3.1.lt (a := 128) (by decide)) (hq3.1.T (a := 128) (p := (100, 1152)) 50 rfl rfl) hc8) ?_
        refine Q.run zm224 1 (i' := 75) (ls' := [some (.ref 121), some (.int x1), some (.int x2), some (.int x3), some (.int x4), some (.int x5), some (.int x6), some (.int x7), some (.int ((128 * x5) + x7))]) (st' := [.int 5, .int (sI s5 128 (jN ((128 * x5) + x7)))]) rfl ?_
        by_cases hc9 : (sI s5 128 (jN ((128 * x5) + x7))) = 5
        · rw [if_pos hc9] at h
          refine Q.map (A.bF (gI_of zm224 (e := (146, 3, .if_icmp .ne 11, [81])) rfl) (fun q => of_decide_eq_true q hc9)) ?_
          exact dt224_76 hd ih hq3.1  h
        · rw [if_neg hc9] at h
          refine Q.map (A.bT (gI_of zm224 (e := (146, 3, .if_icmp .ne 11, [81])) rfl) (decide_eq_true hc9)) ?_
          exact dt224_81 hd ih hq3.1  h
def dm224_37 (x1 : Int32) (x2 : Int32) (x3 : Int32) (x4 : Int32) (x5 : Int32) (y1 : Int32) (s : aS) : Option (aS) :=
  nx (wI s 121 0 y1) fun s1 =>
  if (sI s1 121 0) ≤ 0 then
    dm224_44 5000 x1 x2 x3 x4 x5 0 s1
  else
    some s1
set_option maxRecDepth 100000 in
theorem dt224_37 {sio : Bool} {tt : Nat} {cc : Nat → Nat → Int32} {d : Nat} (hd : 2 ≤ d) {x1 : Int32} {x2 : Int32} {x3 : Int32} {x4 : Int32} {x5 : Int32} {y1 : Int32} {x6 : Int32} {s : aS} (hl : Ly tt cc s) {o : aS} (h : dm224_37  x1 x2 x3 x4 x5 y1 s = some o) : Q 2 sio tt cc d 224 37 [some (.ref 121), some (.int x1), some (.int x2), some (.int x3), some (.int x4), some (.int x5), some (.int x6), none, none] [.int y1, .ref 121] s (.inl none, o) := by
  unfold dm224_37 at h
  obtain ⟨d, rfl⟩ : ∃ e, d = e + 1 := ⟨d - 1, by omega⟩
  obtain ⟨s1, hs2, h⟩ := nx_so h
  refine Q.pf hs2 rfl (gI_of zm224 (e := (77, 3, .putfield 89, [9, 0, 0])) rfl) (hl.lt (a := 121) (by decide)) (by decide) (hl.T (a := 121) (p := (9, 45)) 43 rfl rfl) (by decide) rfl rfl ?_
  have hl3 : Ly tt cc s1 := by rw [hs2]; exact hl.wId (by decide)
  refine Q.run zm224 1 (i' := 39) (ls' := [some (.ref 121), some (.int x1), some (.int x2), some (.int x3), some (.int x4), some (.int x5), some (.int x6), none, none]) (st' := [.ref 121]) rfl ?_
  refine Q.map (A.gf (gI_of zm224 (e := (81, 3, .getfield 89, [9, 0])) rfl) (hl3.lt (a := 121) (by decide)) (hl3.T (a := 121) (p := (9, 45)) 43 rfl rfl) (by decide) rfl) ?_
  by_cases hc4 : (sI s1 121 0) ≤ 0
  · rw [if_pos hc4] at h
    refine Q.map (A.zT (gI_of zm224 (e := (84, 3, .ifCond .le 4, [42])) rfl) (decide_eq_true hc4)) ?_
    refine Q.run zm224 2 (i' := 44) (ls' := [some (.ref 121), some (.int x1), some (.int x2), some (.int x3), some (.int x4), some (.int x5), some (.int x6), some (.int 0), none]) (st' := []) rfl ?_
    exact dt224_44 hd _ hl3  h
  · rw [if_neg hc4] at h
    refine Q.map (A.zF (gI_of zm224 (e := (84, 3, .ifCond .le 4, [42])) rfl) (fun q => hc4 (of_decide_eq_true q))) ?_
    cases h
    exact Q.ret (A.rv zm224 (show zM224.2.2.2.2.2[41]? = some (87, 1, .return_, []) from rfl) rfl) hl3
def dm224_30 (x1 : Int32) (x2 : Int32) (x3 : Int32) (x4 : Int32) (x5 : Int32) (s : aS) : Option (aS) :=
  dm224_37 x1 x2 x3 x4 x5 1 s
set_option maxRecDepth 100000 in
theorem dt224_30 {sio : Bool} {tt : Nat} {cc : Nat → Nat → Int32} {d : Nat} (hd : 2 ≤ d) {x1 : Int32} {x2 : Int32} {x3 : Int32} {x4 : Int32} {x5 : Int32} {x6 : Int32} {s : aS} (hl : Ly tt cc s) {o : aS} (h : dm224_30  x1 x2 x3 x4 x5 s = some o) : Q 2 sio tt cc d 224 30 [some (.ref 121), some (.int x1), some (.int x2), some (.int x3), some (.int x4), some (.int x5), some (.int x6), none, none] [.ref 121] s (.inl none, o) := by
  unfold dm224_30 at h
  obtain ⟨d, rfl⟩ : ∃ e, d = e + 1 := ⟨d - 1, by omega⟩
  refine Q.run zm224 2 (i' := 37) (ls' := [some (.ref 121), some (.int x1), some (.int x2), some (.int x3), some (.int x4), some (.int x5), some (.int x6), none, none]) (st' := [.int 1, .ref 121]) rfl ?_
  exact dt224_37 hd hl  h
def dm224_15 (x1 : Int32) (x2 : Int32) (x3 : Int32) (x4 : Int32) (x5 : Int32) (y0 : Int32) (s : aS) : Option (aS) :=
  if x5 < 0 then
    dm224_30 x1 x2 x3 x4 x5 s
  else
    if 7 < x5 then
      dm224_30 x1 x2 x3 x4 x5 s
    else
      bu (dm225 x1 s) fun r5 =>
      if r5 = 0 then
        bu (dm181 x4 s) fun r9 =>
        if r9 = 0 then
          if y0 = 0 then
            dm224_37 x1 x2 x3 x4 x5 0 s
          else
            dm224_37 x1 x2 x3 x4 x5 2 s
        else
          dm224_30 x1 x2 x3 x4 x5 s
      else
        dm224_30 x1 x2 x3 x4 x5 s
set_option maxRecDepth 100000 in
theorem dt224_15 {sio : Bool} {tt : Nat} {cc : Nat → Nat → Int32} {d : Nat} (hd : 2 ≤ d) {x1 : Int32} {x2 : Int32} {x3 : Int32} {x4 : Int32} {x5 : Int32} {y0 : Int32} {s : aS} (hl : Ly tt cc s) {o : aS} (h : dm224_15  x1 x2 x3 x4 x5 y0 s = some o) : Q 2 sio tt cc d 224 15 [some (.ref 121), some (.int x1), some (.int x2), some (.int x3), some (.int x4), some (.int x5), none, none, none] [.int y0] s (.inl none, o) := by
  unfold dm224_15 at h
  obtain ⟨d, rfl⟩ : ∃ e, d = e + 1 := ⟨d - 1, by omega⟩
  refine Q.run zm224 3 (i' := 18) (ls' := [some (.ref 121), some (.int x1), some (.int x2), some (.int x3), some (.int x4), some (.int x5), some (.int y0), none, none]) (st' := [.int x5, .ref 121]) rfl ?_
  by_cases hc1 : x5 < 0
  · rw [if_pos hc1] at h
    refine Q.map (A.zT (gI_of zm224 (e := (36, 3, .ifCond .lt 27, [30])) rfl) (decide_eq_true hc1)) ?_
    exact dt224_30 hd hl  h
  · rw [if_neg hc1] at h
    refine Q.map (A.zF (gI_of zm224 (e := (36, 3, .ifCond .lt 27, [30])) rfl) (fun q => hc1 (of_decide_eq_true q))) ?_
    refine Q.run zm224 2 (i' := 21) (ls' := [some (.ref 121), some (.int x1), some (.int x2), some (.int x3), some (.int x4), some (.int x5), some (.int y0), none, none]) (st' := [.int 7, .int x5, .ref 121]) rfl ?_
    by_cases hc2 : 7 < x5
    · rw [if_pos hc2] at h
      refine Q.map (A.bT (gI_of zm224 (e := (43, 3, .if_icmp .gt 20, [30])) rfl) (decide_eq_true hc2)) ?_
      exact dt224_30 hd hl  h
    · rw [if_neg hc2] at h
      refine Q.map (A.bF (gI_of zm224 (e := (43, 3, .if_icmp .gt 20, [30])) rfl) (fun q => hc2 (of_decide_eq_true q))) ?_
      refine Q.run zm224 2 (i' := 24) (ls' := [some (.ref 121), some (.int x1), some (.int x2), some (.int x3), some (.int x4), some (.int x5), some (.int y0), none, none]) (st' := [.int x1, .ref 121, .ref 121]) rfl ?_
      obtain ⟨r5, hc4, h⟩ := bu_so h
      have hq3 : Q 2 sio tt cc d 225 0 [some (.ref 121), some (.int x1)] [] s (.inl (some (.int r5)), s) := dt225 (by omega) hl  hc4
      refine Q.callI (gC_vi zm224 (show zM224.2.2.2.2.2[24]? = some (48, 3, .invokevirtual 310, [0, 225, 1, 9]) from rfl) zm225 (hl.lt (a := 121) (by decide)) (hl.T (a := 121) (p := (9, 45)) 43 rfl rfl) rfl (show aCr 1 121 [.int x1, .ref 121, .ref 121] 2 = some ([some (.ref 121), some (.int x1)], [.ref 121]) from rfl)) hq3 ?_
      by_cases hc6 : r5 = 0
      · rw [if_pos hc6] at h
        refine Q.map (A.zF (gI_of zm224 (e := (51, 3, .ifCond .ne 12, [30])) rfl) (fun q => of_decide_eq_true q hc6)) ?_
        refine Q.run zm224 2 (i' := 28) (ls' := [some (.ref 121), some (.int x1), some (.int x2), some (.int x3), some (.int x4), some (.int x5), some (.int y0), none, none]) (st' := [.int x4, .ref 121, .ref 121]) rfl ?_
        obtain ⟨r9, hc8, h⟩ := bu_so h
        have hq7 : Q 2 sio tt cc d 181 0 [some (.ref 121), some (.int x4)] [] s (.inl (some (.int r9)), s) := dt181 (by omega) hl  hc8
        refine Q.callI (gC_vi zm224 (show zM224.2.2.2.2.2[28]? = some (57, 3, .invokevirtual 128, [0, 181, 1, 9]) from rfl) zm181 (hl.lt (a := 121) (by decide)) (hl.T (a := 121) (p := (9, 45)) 43 rfl rfl) rfl (show aCr 1 121 [.int x4, .ref 121, .ref 121] 2 = some ([some (.ref 121), some (.int x4)], [.ref 121]) from rfl)) hq7 ?_
        by_cases hc10 : r9 = 0
        · rw [if_pos hc10] at h
          refine Q.map (A.zT (gI_of zm224 (e := (60, 3, .ifCond .eq 7, [32])) rfl) (decide_eq_true hc10)) ?_
          refine Q.run zm224 1 (i' := 33) (ls' := [some (.ref 121), some (.int x1), some (.int x2), some (.int x3), some (.int x4), some (.int x5), some (.int y0), none, none]) (st' := [.int y0, .ref 121]) rfl ?_
          by_cases hc11 : y0 = 0
          · rw [if_pos hc11] at h
            refine Q.map (A.zT (gI_of zm224 (e := (69, 3, .ifCond .eq 7, [36])) rfl) (decide_eq_true hc11)) ?_
            refine Q.run zm224 1 (i' := 37) (ls' := [some (.ref 121), some (.int x1), some (.int x2), some (.int x3), some (.int x4), some (.int x5), some (.int y0), none, none]) (st' := [.int 0, .ref 121]) rfl ?_
            exact dt224_37 hd hl  h
          · rw [if_neg hc11] at h
            refine Q.map (A.zF (gI_of zm224 (e := (69, 3, .ifCond .eq 7, [36])) rfl) (fun q => hc11 (of_decide_eq_true q))) ?_
            refine Q.run zm224 2 (i' := 37) (ls' := [some (.ref 121), some (.int x1), some (.int x2), some (.int x3), some (.int x4), some (.int x5), some (.int y0), none, none]) (st' := [.int 2, .ref 121]) rfl ?_
            exact dt224_37 hd hl  h
        · rw [if_neg hc10] at h
          refine Q.map (A.zF (gI_of zm224 (e := (60, 3, .ifCond .eq 7, [32])) rfl) (fun q => hc10 (of_decide_eq_true q))) ?_
          exact dt224_30 hd hl  h
      · rw [if_neg hc6] at h
        refine Q.map (A.zT (gI_of zm224 (e := (51, 3, .ifCond .ne 12, [30])) rfl) (decide_eq_true hc6)) ?_
        exact dt224_30 hd hl  h
def dm224_12 (x1 : Int32) (x2 : Int32) (x3 : Int32) (x4 : Int32) (x5 : Int32) (s : aS) : Option (aS) :=
  dm224_15 x1 x2 x3 x4 x5 1 s
set_option maxRecDepth 100000 in
theorem dt224_12 {sio : Bool} {tt : Nat} {cc : Nat → Nat → Int32} {d : Nat} (hd : 2 ≤ d) {x1 : Int32} {x2 : Int32} {x3 : Int32} {x4 : Int32} {x5 : Int32} {s : aS} (hl : Ly tt cc s) {o : aS} (h : dm224_12  x1 x2 x3 x4 x5 s = some o) : Q 2 sio tt cc d 224 12 [some (.ref 121), some (.int x1), some (.int x2), some (.int x3), some (.int x4), some (.int x5), none, none, none] [] s (.inl none, o) := by
  unfold dm224_12 at h
  obtain ⟨d, rfl⟩ : ∃ e, d = e + 1 := ⟨d - 1, by omega⟩
  refine Q.run zm224 2 (i' := 15) (ls' := [some (.ref 121), some (.int x1), some (.int x2), some (.int x3), some (.int x4), some (.int x5), none, none, none]) (st' := [.int 1]) rfl ?_
  exact dt224_15 hd hl  h
def dm224 (x1 : Int32) (x2 : Int32) (x3 : Int32) (x4 : Int32) (x5 : Int32) (s : aS) : Option (aS) :=
  if x2 < (-1048576) then
    dm224_12 x1 x2 x3 x4 x5 s
  else
    if 1048576 < x2 then
      dm224_12 x1 x2 x3 x4 x5 s
    else
      if x3 < (-1048576) then
        dm224_12 x1 x2 x3 x4 x5 s
      else
        if x3 ≤ 1048576 then
          dm224_15 x1 x2 x3 x4 x5 0 s
        else
          dm224_12 x1 x2 x3 x4 x5 s
set_option maxRecDepth 100000 in
theorem dt224 {sio : Bool} {tt : Nat} {cc : Nat → Nat → Int32} {d : Nat} (hd : 2 ≤ d) {x1 : Int32} {x2 : Int32} {x3 : Int32} {x4 : Int32} {x5 : Int32} {s : aS} (hl : Ly tt cc s) {o : aS} (h : dm224  x1 x2 x3 x4 x5 s = some o) : Q 2 sio tt cc d 224 0 [some (.ref 121), some (.int x1), some (.int x2), some (.int x3), some (.int x4), some (.int x5), none, none, none] [] s (.inl none, o) := by
  unfold dm224 at h
  obtain ⟨d, rfl⟩ : ∃ e, d = e + 1 := ⟨d - 1, by omega⟩
  refine Q.run zm224 2 (i' := 2) (ls' := [some (.ref 121), some (.int x1), some (.int x2), some (.int x3), some (.int x4), some (.int x5), none, none, none]) (st' := [.int (-1048576), .int x2]) rfl ?_
  by_cases hc1 : x2 < (-1048576)
  · rw [if_pos hc1] at h
    refine Q.map (A.bT (gI_of zm224 (e := (4, 3, .if_icmp .lt 22, [12])) rfl) (decide_eq_true hc1)) ?_
    exact dt224_12 hd hl  h
  · rw [if_neg hc1] at h
    refine Q.map (A.bF (gI_of zm224 (e := (4, 3, .if_icmp .lt 22, [12])) rfl) (fun q => hc1 (of_decide_eq_true q))) ?_
    refine Q.run zm224 2 (i' := 5) (ls' := [some (.ref 121), some (.int x1), some (.int x2), some (.int x3), some (.int x4), some (.int x5), none, none, none]) (st' := [.int 1048576, .int x2]) rfl ?_
    by_cases hc2 : 1048576 < x2
    · rw [if_pos hc2] at h
      refine Q.map (A.bT (gI_of zm224 (e := (10, 3, .if_icmp .gt 16, [12])) rfl) (decide_eq_true hc2)) ?_
      exact dt224_12 hd hl  h
    · rw [if_neg hc2] at h
      refine Q.map (A.bF (gI_of zm224 (e := (10, 3, .if_icmp .gt 16, [12])) rfl) (fun q => hc2 (of_decide_eq_true q))) ?_
      refine Q.run zm224 2 (i' := 8) (ls' := [some (.ref 121), some (.int x1), some (.int x2), some (.int x3), some (.int x4), some (.int x5), none, none, none]) (st' := [.int (-1048576), .int x3]) rfl ?_
      by_cases hc3 : x3 < (-1048576)
      · rw [if_pos hc3] at h
        refine Q.map (A.bT (gI_of zm224 (e := (17, 3, .if_icmp .lt 9, [12])) rfl) (decide_eq_true hc3)) ?_
        exact dt224_12 hd hl  h
      · rw [if_neg hc3] at h
        refine Q.map (A.bF (gI_of zm224 (e := (17, 3, .if_icmp .lt 9, [12])) rfl) (fun q => hc3 (of_decide_eq_true q))) ?_
        refine Q.run zm224 2 (i' := 11) (ls' := [some (.ref 121), some (.int x1), some (.int x2), some (.int x3), some (.int x4), some (.int x5), none, none, none]) (st' := [.int 1048576, .int x3]) rfl ?_
        by_cases hc4 : x3 ≤ 1048576
        · rw [if_pos hc4] at h
          refine Q.map (A.bT (gI_of zm224 (e := (23, 3, .if_icmp .le 7, [14])) rfl) (decide_eq_true hc4)) ?_
          refine Q.run zm224 1 (i' := 15) (ls' := [some (.ref 121), some (.int x1), some (.int x2), some (.int x3), some (.int x4), some (.int x5), none, none, none]) (st' := [.int 0]) rfl ?_
          exact dt224_15 hd hl  h
        · rw [if_neg hc4] at h
          refine Q.map (A.bF (gI_of zm224 (e := (23, 3, .if_icmp .le 7, [14])) rfl) (fun q => hc4 (of_decide_eq_true q))) ?_
          exact dt224_12 hd hl  h
/-! 135 FormulaTrees$Tree.takeOut(IZII)Z -/
set_option maxRecDepth 100000 in
theorem zm135 : zP[135]? = some zM135 := rfl
def dm135_68 (x6 : Int32) (x8 : Int32) (c0 : Nat) (y1 : Int32) (y2 : Int32) (s : aS) : Option (Int32 × aS) :=
  bu (dm60 c0 y1 y2 x6 s) fun s3 =>
  if x8 = 0 ∨ x8 = 1 then
    some (x8, s3)
  else none
set_option maxRecDepth 100000 in
theorem dt135_68 {sio : Bool} {tt : Nat} {cc : Nat → Nat → Int32} {d : Nat} (hd : 1 ≤ d) {x6 : Int32} {x8 : Int32} {c0 : Nat} {y1 : Int32} {y2 : Int32} {b0 : Nat} {x1 : Int32} {x2 : Int32} {x3 : Int32} {x4 : Int32} {x5 : Int32} {x7 : Int32} {s : aS} (hl : Ly tt cc s) (hk_c0 : aK s c0 3) {o : Int32 × aS} (h : dm135_68  x6 x8 c0 y1 y2 s = some o) : Q 1 sio tt cc d 135 68 [some (.ref b0), some (.int x1), some (.int x2), some (.int x3), some (.int x4), some (.int x5), some (.int x6), some (.int x7), some (.int x8)] [.int y2, .int y1, .ref c0] s (.inl (some (.int o.1)), o.2) := by
  unfold dm135_68 at h
  obtain ⟨d, rfl⟩ : ∃ e, d = e + 1 := ⟨d - 1, by omega⟩
  refine Q.run zm135 1 (i' := 69) (ls' := [some (.ref b0), some (.int x1), some (.int x2), some (.int x3), some (.int x4), some (.int x5), some (.int x6), some (.int x7), some (.int x8)]) (st' := [.int x6, .int y2, .int y1, .ref c0]) rfl ?_
  obtain ⟨s3, hc2, h⟩ := bu_so h
  have hq1 : Q 1 sio tt cc d 60 0 [some (.ref c0), some (.int y1), some (.int y2), some (.int x6)] [] s (.inl none, s3) := dt60 (by omega) hl hk_c0 hc2
  refine Q.callV (gC_vi zm135 (show zM135.2.2.2.2.2[69]? = some (125, 3, .invokevirtual 51, [0, 60, 3, 3]) from rfl) zm60 hk_c0.1 (hl.tr hk_c0).1 rfl (show aCr 3 c0 [.int x6, .int y2, .int y1, .ref c0] 4 = some ([some (.ref c0), some (.int y1), some (.int y2), some (.int x6)], []) from rfl)) hq1 ?_
  have hr4 : aK s3 c0 3 := hq1.2.1.k hk_c0
  refine Q.run zm135 1 (i' := 71) (ls' := [some (.ref b0), some (.int x1), some (.int x2), some (.int x3), some (.int x4), some (.int x5), some (.int x6), some (.int x7), some (.int x8)]) (st' := [.int x8]) rfl ?_
  obtain ⟨hc5, h⟩ := ite_so h
  cases h
  exact Q.ret (A.ri zm135 (show zM135.2.2.2.2.2[71]? = some (130, 1, .ireturn, []) from rfl) rfl (fit1 hc5)) hq1.1
def dm135_59 (b0 : Nat) (x1 : Int32) (x2 : Int32) (x5 : Int32) (x6 : Int32) (x8 : Int32) (c0 : Nat) (y1 : Int32) (y2 : Int32) (s : aS) : Option (Int32 × aS) :=
  bu (dm60 c0 y1 y2 x5 s) fun s3 =>
  if x2 = 0 then
    dm135_68 x6 x8 b0 x1 6 s3
  else
    dm135_68 x6 x8 b0 x1 5 s3
set_option maxRecDepth 100000 in
theorem dt135_59 {sio : Bool} {tt : Nat} {cc : Nat → Nat → Int32} {d : Nat} (hd : 1 ≤ d) {b0 : Nat} {x1 : Int32} {x2 : Int32} {x5 : Int32} {x6 : Int32} {x8 : Int32} {c0 : Nat} {y1 : Int32} {y2 : Int32} {x3 : Int32} {x4 : Int32} {x7 : Int32} {s : aS} (hl : Ly tt cc s) (hk_b0 : aK s b0 3) (hk_c0 : aK s c0 3) {o : Int32 × aS} (h : dm135_59  b0 x1 x2 x5 x6 x8 c0 y1 y2 s = some o) : Q 1 sio tt cc d 135 59 [some (.ref b0), some (.int x1), some (.int x2), some (.int x3), some (.int x4), some (.int x5), some (.int x6), some (.int x7), some (.int x8)] [.int y2, .int y1, .ref c0] s (.inl (some (.int o.1)), o.2) := by
  unfold dm135_59 at h
  obtain ⟨d, rfl⟩ : ∃ e, d = e + 1 := ⟨d - 1, by omega⟩
  refine Q.run zm135 1 (i' := 60) (ls' := [some (.ref b0), some (.int x1), some (.int x2), some (.int x3), some (.int x4), some (.int x5), some (.int x6), some (.int x7), some (.int x8)]) (st' := [.int x5, .int y2, .int y1, .ref c0]) rfl ?_
  obtain ⟨s3, hc2, h⟩ := bu_so h
  have hq1 : Q 1 sio tt cc d 60 0 [some (.ref c0), some (.int y1), some (.int y2), some (.int x5)] [] s (.inl none, s3) := dt60 (by omega) hl hk_c0 hc2
  refine Q.callV (gC_vi zm135 (show zM135.2.2.2.2.2[60]? = some (108, 3, .invokevirtual 51, [0, 60, 3, 3]) from rfl) zm60 hk_c0.1 (hl.tr hk_c0).1 rfl (show aCr 3 c0 [.int x5, .int y2, .int y1, .ref c0] 4 = some ([some (.ref c0), some (.int y1), some (.int y2), some (.int x5)], []) from rfl)) hq1 ?_
  have hr4 : aK s3 b0 3 := hq1.2.1.k hk_b0
  have hr5 : aK s3 c0 3 := hq1.2.1.k hk_c0
  refine Q.run zm135 3 (i' := 64) (ls' := [some (.ref b0), some (.int x1), some (.int x2), some (.int x3), some (.int x4), some (.int x5), some (.int x6), some (.int x7), some (.int x8)]) (st' := [.int x2, .int x1, .ref b0]) rfl ?_
  by_cases hc6 : x2 = 0
  · rw [if_pos hc6] at h
    refine Q.map (A.zT (gI_of zm135 (e := (114, 3, .ifCond .eq 7, [67])) rfl) (decide_eq_true hc6)) ?_
    refine Q.run zm135 1 (i' := 68) (ls' := [some (.ref b0), some (.int x1), some (.int x2), some (.int x3), some (.int x4), some (.int x5), some (.int x6), some (.int x7), some (.int x8)]) (st' := [.int 6, .int x1, .ref b0]) rfl ?_
    exact dt135_68 hd hq1.1 hr4 h
  · rw [if_neg hc6] at h
    refine Q.map (A.zF (gI_of zm135 (e := (114, 3, .ifCond .eq 7, [67])) rfl) (fun q => hc6 (of_decide_eq_true q))) ?_
    refine Q.run zm135 2 (i' := 68) (ls' := [some (.ref b0), some (.int x1), some (.int x2), some (.int x3), some (.int x4), some (.int x5), some (.int x6), some (.int x7), some (.int x8)]) (st' := [.int 5, .int x1, .ref b0]) rfl ?_
    exact dt135_68 hd hq1.1 hr4 h
def dm135_52 (b0 : Nat) (x1 : Int32) (x2 : Int32) (x5 : Int32) (x6 : Int32) (x8 : Int32) (s : aS) : Option (Int32 × aS) :=
  if x2 = 0 then
    dm135_59 b0 x1 x2 x5 x6 x8 b0 x1 4 s
  else
    dm135_59 b0 x1 x2 x5 x6 x8 b0 x1 3 s
set_option maxRecDepth 100000 in
theorem dt135_52 {sio : Bool} {tt : Nat} {cc : Nat → Nat → Int32} {d : Nat} (hd : 1 ≤ d) {b0 : Nat} {x1 : Int32} {x2 : Int32} {x5 : Int32} {x6 : Int32} {x8 : Int32} {x3 : Int32} {x4 : Int32} {x7 : Int32} {s : aS} (hl : Ly tt cc s) (hk_b0 : aK s b0 3) {o : Int32 × aS} (h : dm135_52  b0 x1 x2 x5 x6 x8 s = some o) : Q 1 sio tt cc d 135 52 [some (.ref b0), some (.int x1), some (.int x2), some (.int x3), some (.int x4), some (.int x5), some (.int x6), some (.int x7), some (.int x8)] [] s (.inl (some (.int o.1)), o.2) := by
  unfold dm135_52 at h
  obtain ⟨d, rfl⟩ : ∃ e, d = e + 1 := ⟨d - 1, by omega⟩
  refine Q.run zm135 3 (i' := 55) (ls' := [some (.ref b0), some (.int x1), some (.int x2), some (.int x3), some (.int x4), some (.int x5), some (.int x6), some (.int x7), some (.int x8)]) (st' := [.int x2, .int x1, .ref b0]) rfl ?_
  by_cases hc1 : x2 = 0
  · rw [if_pos hc1] at h
    refine Q.map (A.zT (gI_of zm135 (e := (98, 3, .ifCond .eq 7, [58])) rfl) (decide_eq_true hc1)) ?_
    refine Q.run zm135 1 (i' := 59) (ls' := [some (.ref b0), some (.int x1), some (.int x2), some (.int x3), some (.int x4), some (.int x5), some (.int x6), some (.int x7), some (.int x8)]) (st' := [.int 4, .int x1, .ref b0]) rfl ?_
    exact dt135_59 hd hl hk_b0 hk_b0 h
  · rw [if_neg hc1] at h
    refine Q.map (A.zF (gI_of zm135 (e := (98, 3, .ifCond .eq 7, [58])) rfl) (fun q => hc1 (of_decide_eq_true q))) ?_
    refine Q.run zm135 2 (i' := 59) (ls' := [some (.ref b0), some (.int x1), some (.int x2), some (.int x3), some (.int x4), some (.int x5), some (.int x6), some (.int x7), some (.int x8)]) (st' := [.int 3, .int x1, .ref b0]) rfl ?_
    exact dt135_59 hd hl hk_b0 hk_b0 h
def dm135_41 (b0 : Nat) (x1 : Int32) (x2 : Int32) (x3 : Int32) (x4 : Int32) (x5 : Int32) (x6 : Int32) (x8 : Int32) (s : aS) : Option (Int32 × aS) :=
  if x6 < x3 then
    dm135_52 b0 x1 x2 x5 x6 x8 s
  else
    dm135_52 b0 x1 x2 x5 (if (x6 - x4) < (x3 - 1) then (x3 - 1) else (x6 - x4)) x8 s
set_option maxRecDepth 100000 in
theorem dt135_41 {sio : Bool} {tt : Nat} {cc : Nat → Nat → Int32} {d : Nat} (hd : 1 ≤ d) {b0 : Nat} {x1 : Int32} {x2 : Int32} {x3 : Int32} {x4 : Int32} {x5 : Int32} {x6 : Int32} {x8 : Int32} {x7 : Int32} {s : aS} (hl : Ly tt cc s) (hk_b0 : aK s b0 3) {o : Int32 × aS} (h : dm135_41  b0 x1 x2 x3 x4 x5 x6 x8 s = some o) : Q 1 sio tt cc d 135 41 [some (.ref b0), some (.int x1), some (.int x2), some (.int x3), some (.int x4), some (.int x5), some (.int x6), some (.int x7), some (.int x8)] [] s (.inl (some (.int o.1)), o.2) := by
  unfold dm135_41 at h
  obtain ⟨d, rfl⟩ : ∃ e, d = e + 1 := ⟨d - 1, by omega⟩
  refine Q.run zm135 2 (i' := 43) (ls' := [some (.ref b0), some (.int x1), some (.int x2), some (.int x3), some (.int x4), some (.int x5), some (.int x6), some (.int x7), some (.int x8)]) (st' := [.int x3, .int x6]) rfl ?_
  by_cases hc1 : x6 < x3
  · rw [if_pos hc1] at h
    refine Q.map (A.bT (gI_of zm135 (e := (79, 3, .if_icmp .lt 16, [52])) rfl) (decide_eq_true hc1)) ?_
    exact dt135_52 hd hl hk_b0 h
  · rw [if_neg hc1] at h
    refine Q.map (A.bF (gI_of zm135 (e := (79, 3, .if_icmp .lt 16, [52])) rfl) (fun q => hc1 (of_decide_eq_true q))) ?_
    refine Q.run zm135 6 (i' := 50) (ls' := [some (.ref b0), some (.int x1), some (.int x2), some (.int x3), some (.int x4), some (.int x5), some (.int x6), some (.int x7), some (.int x8)]) (st' := [.int (x3 - 1), .int (x6 - x4)]) rfl ?_
    refine Q.map (A.mx zm135 (eq_true (show 0 ≤ 8 by decide)) (show zM135.2.2.2.2.2[50]? = some (90, 3, .invokestatic 122, [3]) from rfl)) ?_
    refine Q.run zm135 1 (i' := 52) (ls' := [some (.ref b0), some (.int x1), some (.int x2), some (.int x3), some (.int x4), some (.int x5), some (.int (if (x6 - x4) < (x3 - 1) then (x3 - 1) else (x6 - x4))), some (.int x7), some (.int x8)]) (st' := []) rfl ?_
    exact dt135_52 hd hl hk_b0 h
def dm135_31 (b0 : Nat) (x1 : Int32) (x2 : Int32) (x3 : Int32) (x4 : Int32) (x5 : Int32) (x6 : Int32) (y0 : Int32) (s : aS) : Option (Int32 × aS) :=
  if x5 < x3 then
    dm135_41 b0 x1 x2 x3 x4 x5 x6 y0 s
  else
    dm135_41 b0 x1 x2 x3 x4 (if (x5 - x4) < x3 then x3 else (x5 - x4)) x6 y0 s
set_option maxRecDepth 100000 in
theorem dt135_31 {sio : Bool} {tt : Nat} {cc : Nat → Nat → Int32} {d : Nat} (hd : 1 ≤ d) {b0 : Nat} {x1 : Int32} {x2 : Int32} {x3 : Int32} {x4 : Int32} {x5 : Int32} {x6 : Int32} {y0 : Int32} {x7 : Int32} {s : aS} (hl : Ly tt cc s) (hk_b0 : aK s b0 3) {o : Int32 × aS} (h : dm135_31  b0 x1 x2 x3 x4 x5 x6 y0 s = some o) : Q 1 sio tt cc d 135 31 [some (.ref b0), some (.int x1), some (.int x2), some (.int x3), some (.int x4), some (.int x5), some (.int x6), some (.int x7), none] [.int y0] s (.inl (some (.int o.1)), o.2) := by
  unfold dm135_31 at h
  obtain ⟨d, rfl⟩ : ∃ e, d = e + 1 := ⟨d - 1, by omega⟩
  refine Q.run zm135 3 (i' := 34) (ls' := [some (.ref b0), some (.int x1), some (.int x2), some (.int x3), some (.int x4), some (.int x5), some (.int x6), some (.int x7), some (.int y0)]) (st' := [.int x3, .int x5]) rfl ?_
  by_cases hc1 : x5 < x3
  · rw [if_pos hc1] at h
    refine Q.map (A.bT (gI_of zm135 (e := (62, 3, .if_icmp .lt 14, [41])) rfl) (decide_eq_true hc1)) ?_
    exact dt135_41 hd hl hk_b0 h
  · rw [if_neg hc1] at h
    refine Q.map (A.bF (gI_of zm135 (e := (62, 3, .if_icmp .lt 14, [41])) rfl) (fun q => hc1 (of_decide_eq_true q))) ?_
    refine Q.run zm135 4 (i' := 39) (ls' := [some (.ref b0), some (.int x1), some (.int x2), some (.int x3), some (.int x4), some (.int x5), some (.int x6), some (.int x7), some (.int y0)]) (st' := [.int x3, .int (x5 - x4)]) rfl ?_
    refine Q.map (A.mx zm135 (eq_true (show 0 ≤ 8 by decide)) (show zM135.2.2.2.2.2[39]? = some (71, 3, .invokestatic 122, [3]) from rfl)) ?_
    refine Q.run zm135 1 (i' := 41) (ls' := [some (.ref b0), some (.int x1), some (.int x2), some (.int x3), some (.int x4), some (.int (if (x5 - x4) < x3 then x3 else (x5 - x4))), some (.int x6), some (.int x7), some (.int y0)]) (st' := []) rfl ?_
    exact dt135_41 hd hl hk_b0 h
def dm135_28 (b0 : Nat) (x1 : Int32) (x2 : Int32) (x3 : Int32) (x4 : Int32) (x5 : Int32) (x6 : Int32) (s : aS) : Option (Int32 × aS) :=
  dm135_31 b0 x1 x2 x3 x4 x5 x6 1 s
set_option maxRecDepth 100000 in
theorem dt135_28 {sio : Bool} {tt : Nat} {cc : Nat → Nat → Int32} {d : Nat} (hd : 1 ≤ d) {b0 : Nat} {x1 : Int32} {x2 : Int32} {x3 : Int32} {x4 : Int32} {x5 : Int32} {x6 : Int32} {x7 : Int32} {s : aS} (hl : Ly tt cc s) (hk_b0 : aK s b0 3) {o : Int32 × aS} (h : dm135_28  b0 x1 x2 x3 x4 x5 x6 s = some o) : Q 1 sio tt cc d 135 28 [some (.ref b0), some (.int x1), some (.int x2), some (.int x3), some (.int x4), some (.int x5), some (.int x6), some (.int x7), none] [] s (.inl (some (.int o.1)), o.2) := by
  unfold dm135_28 at h
  obtain ⟨d, rfl⟩ : ∃ e, d = e + 1 := ⟨d - 1, by omega⟩
  refine Q.run zm135 2 (i' := 31) (ls' := [some (.ref b0), some (.int x1), some (.int x2), some (.int x3), some (.int x4), some (.int x5), some (.int x6), some (.int x7), none]) (st' := [.int 1]) rfl ?_
  exact dt135_31 hd hl hk_b0 h
def dm135_16 (b0 : Nat) (x1 : Int32) (x2 : Int32) (x3 : Int32) (x4 : Int32) (x5 : Int32) (c0 : Nat) (y1 : Int32) (y2 : Int32) (s : aS) : Option (Int32 × aS) :=
  bu (dm57 c0 y1 y2 s) fun r3 =>
  if x5 < x3 then
    dm135_28 b0 x1 x2 x3 x4 x5 r3 s
  else
    if r3 < (x3 + x4) then
      dm135_31 b0 x1 x2 x3 x4 x5 r3 0 s
    else
      dm135_28 b0 x1 x2 x3 x4 x5 r3 s
set_option maxRecDepth 100000 in
theorem dt135_16 {sio : Bool} {tt : Nat} {cc : Nat → Nat → Int32} {d : Nat} (hd : 1 ≤ d) {b0 : Nat} {x1 : Int32} {x2 : Int32} {x3 : Int32} {x4 : Int32} {x5 : Int32} {c0 : Nat} {y1 : Int32} {y2 : Int32} {s : aS} (hl : Ly tt cc s) (hk_b0 : aK s b0 3) (hk_c0 : aK s c0 3) {o : Int32 × aS} (h : dm135_16  b0 x1 x2 x3 x4 x5 c0 y1 y2 s = some o) : Q 1 sio tt cc d 135 16 [some (.ref b0), some (.int x1), some (.int x2), some (.int x3), some (.int x4), some (.int x5), none, none, none] [.int y2, .int y1, .ref c0] s (.inl (some (.int o.1)), o.2) := by
  unfold dm135_16 at h
  obtain ⟨d, rfl⟩ : ∃ e, d = e + 1 := ⟨d - 1, by omega⟩
  obtain ⟨r3, hc2, h⟩ := bu_so h
  have hq1 : Q 1 sio tt cc d 57 0 [some (.ref c0), some (.int y1), some (.int y2), none] [] s (.inl (some (.int r3)), s) := dt57 (by omega) hl hk_c0 hc2
  refine Q.callI (gC_vi zm135 (show zM135.2.2.2.2.2[16]? = some (28, 3, .invokevirtual 28, [0, 57, 2, 3]) from rfl) zm57 hk_c0.1 (hl.tr hk_c0).1 rfl (show aCr 2 c0 [.int y2, .int y1, .ref c0] 4 = some ([some (.ref c0), some (.int y1), some (.int y2), none], []) from rfl)) hq1 ?_
  refine Q.run zm135 7 (i' := 24) (ls' := [some (.ref b0), some (.int x1), some (.int x2), some (.int x3), some (.int x4), some (.int x5), some (.int r3), some (.int (x3 + x4)), none]) (st' := [.int x3, .int x5]) rfl ?_
  by_cases hc4 : x5 < x3
  · rw [if_pos hc4] at h
    refine Q.map (A.bT (gI_of zm135 (e := (42, 3, .if_icmp .lt 10, [28])) rfl) (decide_eq_true hc4)) ?_
    exact dt135_28 hd hl hk_b0 h
  · rw [if_neg hc4] at h
    refine Q.map (A.bF (gI_of zm135 (e := (42, 3, .if_icmp .lt 10, [28])) rfl) (fun q => hc4 (of_decide_eq_true q))) ?_
    refine Q.run zm135 2 (i' := 27) (ls' := [some (.ref b0), some (.int x1), some (.int x2), some (.int x3), some (.int x4), some (.int x5), some (.int r3), some (.int (x3 + x4)), none]) (st' := [.int (x3 + x4), .int r3]) rfl ?_
    by_cases hc5 : r3 < (x3 + x4)
    · rw [if_pos hc5] at h
      refine Q.map (A.bT (gI_of zm135 (e := (49, 3, .if_icmp .lt 7, [30])) rfl) (decide_eq_true hc5)) ?_
      refine Q.run zm135 1 (i' := 31) (ls' := [some (.ref b0), some (.int x1), some (.int x2), some (.int x3), some (.int x4), some (.int x5), some (.int r3), some (.int (x3 + x4)), none]) (st' := [.int 0]) rfl ?_
      exact dt135_31 hd hl hk_b0 h
    · rw [if_neg hc5] at h
      refine Q.map (A.bF (gI_of zm135 (e := (49, 3, .if_icmp .lt 7, [30])) rfl) (fun q => hc5 (of_decide_eq_true q))) ?_
      exact dt135_28 hd hl hk_b0 h
def dm135_7 (b0 : Nat) (x1 : Int32) (x2 : Int32) (x3 : Int32) (x4 : Int32) (c0 : Nat) (y1 : Int32) (y2 : Int32) (s : aS) : Option (Int32 × aS) :=
  bu (dm57 c0 y1 y2 s) fun r3 =>
  if x2 = 0 then
    dm135_16 b0 x1 x2 x3 x4 r3 b0 x1 6 s
  else
    dm135_16 b0 x1 x2 x3 x4 r3 b0 x1 5 s
set_option maxRecDepth 100000 in
theorem dt135_7 {sio : Bool} {tt : Nat} {cc : Nat → Nat → Int32} {d : Nat} (hd : 1 ≤ d) {b0 : Nat} {x1 : Int32} {x2 : Int32} {x3 : Int32} {x4 : Int32} {c0 : Nat} {y1 : Int32} {y2 : Int32} {s : aS} (hl : Ly tt cc s) (hk_b0 : aK s b0 3) (hk_c0 : aK s c0 3) {o : Int32 × aS} (h : dm135_7  b0 x1 x2 x3 x4 c0 y1 y2 s = some o) : Q 1 sio tt cc d 135 7 [some (.ref b0), some (.int x1), some (.int x2), some (.int x3), some (.int x4), none, none, none, none] [.int y2, .int y1, .ref c0] s (.inl (some (.int o.1)), o.2) := by
  unfold dm135_7 at h
  obtain ⟨d, rfl⟩ : ∃ e, d = e + 1 := ⟨d - 1, by omega⟩
  obtain ⟨r3, hc2, h⟩ := bu_so h
  have hq1 : Q 1 sio tt cc d 57 0 [some (.ref c0), some (.int y1), some (.int y2), none] [] s (.inl (some (.int r3)), s) := dt57 (by omega) hl hk_c0 hc2
  refine Q.callI (gC_vi zm135 (show zM135.2.2.2.2.2[7]? = some (11, 3, .invokevirtual 28, [0, 57, 2, 3]) from rfl) zm57 hk_c0.1 (hl.tr hk_c0).1 rfl (show aCr 2 c0 [.int y2, .int y1, .ref c0] 4 = some ([some (.ref c0), some (.int y1), some (.int y2), none], []) from rfl)) hq1 ?_
  refine Q.run zm135 4 (i' := 12) (ls' := [some (.ref b0), some (.int x1), some (.int x2), some (.int x3), some (.int x4), some (.int r3), none, none, none]) (st' := [.int x2, .int x1, .ref b0]) rfl ?_
  by_cases hc4 : x2 = 0
  · rw [if_pos hc4] at h
    refine Q.map (A.zT (gI_of zm135 (e := (19, 3, .ifCond .eq 7, [15])) rfl) (decide_eq_true hc4)) ?_
    refine Q.run zm135 1 (i' := 16) (ls' := [some (.ref b0), some (.int x1), some (.int x2), some (.int x3), some (.int x4), some (.int r3), none, none, none]) (st' := [.int 6, .int x1, .ref b0]) rfl ?_
    exact dt135_16 hd hl hk_b0 hk_b0 h
  · rw [if_neg hc4] at h
    refine Q.map (A.zF (gI_of zm135 (e := (19, 3, .ifCond .eq 7, [15])) rfl) (fun q => hc4 (of_decide_eq_true q))) ?_
    refine Q.run zm135 2 (i' := 16) (ls' := [some (.ref b0), some (.int x1), some (.int x2), some (.int x3), some (.int x4), some (.int r3), none, none, none]) (st' := [.int 5, .int x1, .ref b0]) rfl ?_
    exact dt135_16 hd hl hk_b0 hk_b0 h
def dm135 (b0 : Nat) (x1 : Int32) (x2 : Int32) (x3 : Int32) (x4 : Int32) (s : aS) : Option (Int32 × aS) :=
  if x2 = 0 then
    dm135_7 b0 x1 x2 x3 x4 b0 x1 4 s
  else
    dm135_7 b0 x1 x2 x3 x4 b0 x1 3 s
set_option maxRecDepth 100000 in
theorem dt135 {sio : Bool} {tt : Nat} {cc : Nat → Nat → Int32} {d : Nat} (hd : 1 ≤ d) {b0 : Nat} {x1 : Int32} {x2 : Int32} {x3 : Int32} {x4 : Int32} {s : aS} (hl : Ly tt cc s) (hk_b0 : aK s b0 3) {o : Int32 × aS} (h : dm135  b0 x1 x2 x3 x4 s = some o) : Q 1 sio tt cc d 135 0 [some (.ref b0), some (.int x1), some (.int x2), some (.int x3), some (.int x4), none, none, none, none] [] s (.inl (some (.int o.1)), o.2) := by
  unfold dm135 at h
  obtain ⟨d, rfl⟩ : ∃ e, d = e + 1 := ⟨d - 1, by omega⟩
  refine Q.run zm135 3 (i' := 3) (ls' := [some (.ref b0), some (.int x1), some (.int x2), some (.int x3), some (.int x4), none, none, none, none]) (st' := [.int x2, .int x1, .ref b0]) rfl ?_
  by_cases hc1 : x2 = 0
  · rw [if_pos hc1] at h
    refine Q.map (A.zT (gI_of zm135 (e := (3, 3, .ifCond .eq 7, [6])) rfl) (decide_eq_true hc1)) ?_
    refine Q.run zm135 1 (i' := 7) (ls' := [some (.ref b0), some (.int x1), some (.int x2), some (.int x3), some (.int x4), none, none, none, none]) (st' := [.int 4, .int x1, .ref b0]) rfl ?_
    exact dt135_7 hd hl hk_b0 hk_b0 h
  · rw [if_neg hc1] at h
    refine Q.map (A.zF (gI_of zm135 (e := (3, 3, .ifCond .eq 7, [6])) rfl) (fun q => hc1 (of_decide_eq_true q))) ?_
    refine Q.run zm135 2 (i' := 7) (ls' := [some (.ref b0), some (.int x1), some (.int x2), some (.int x3), some (.int x4), none, none, none, none]) (st' := [.int 3, .int x1, .ref b0]) rfl ?_
    exact dt135_7 hd hl hk_b0 hk_b0 h
/-! 136 FormulaTrees$Tree.putIn(IZII)Z -/
set_option maxRecDepth 100000 in
theorem zm136 : zP[136]? = some zM136 := rfl
def dm136_52 (x2 : Int32) (x5 : Int32) (x6 : Int32) (c0 : Nat) (y1 : Int32) (y2 : Int32) (s : aS) : Option (Int32 × aS) :=
  bu (dm132 x2) fun r3 =>
  bu (dm60 c0 y1 y2 (if r3 < x6 then r3 else x6) s) fun s6 =>
  bu (dm132 x2) fun r10 =>
  if r10 < x5 then
    some (0, s6)
  else
    some (1, s6)
set_option maxRecDepth 100000 in
theorem dt136_52 {sio : Bool} {tt : Nat} {cc : Nat → Nat → Int32} {d : Nat} (hd : 1 ≤ d) {x2 : Int32} {x5 : Int32} {x6 : Int32} {c0 : Nat} {y1 : Int32} {y2 : Int32} {b0 : Nat} {x1 : Int32} {x3 : Int32} {x4 : Int32} {s : aS} (hl : Ly tt cc s) (hk_c0 : aK s c0 3) {o : Int32 × aS} (h : dm136_52  x2 x5 x6 c0 y1 y2 s = some o) : Q 1 sio tt cc d 136 52 [some (.ref b0), some (.int x1), some (.int x2), some (.int x3), some (.int x4), some (.int x5), some (.int x6)] [.int y2, .int y1, .ref c0] s (.inl (some (.int o.1)), o.2) := by
  unfold dm136_52 at h
  obtain ⟨d, rfl⟩ : ∃ e, d = e + 1 := ⟨d - 1, by omega⟩
  refine Q.run zm136 2 (i' := 54) (ls' := [some (.ref b0), some (.int x1), some (.int x2), some (.int x3), some (.int x4), some (.int x5), some (.int x6)]) (st' := [.int x2, .int x6, .int y2, .int y1, .ref c0]) rfl ?_
  obtain ⟨r3, hc2, h⟩ := bu_so h
  have hq1 : Q 1 sio tt cc d 132 0 [some (.int x2)] [] s (.inl (some (.int r3)), s) := dt132 (by omega) hl  hc2
  refine Q.callI (gC_st zm136 (show zM136.2.2.2.2.2[54]? = some (98, 3, .invokestatic 106, [0, 132, 1]) from rfl) zm132 (show aC 1 [.int x2, .int x6, .int y2, .int y1, .ref c0] 1 = some ([some (.int x2)], [.int x6, .int y2, .int y1, .ref c0]) from rfl)) hq1 ?_
  refine Q.map (A.mn zm136 (eq_true (show 3 ≤ 8 by decide)) (show zM136.2.2.2.2.2[55]? = some (101, 3, .invokestatic 117, [4]) from rfl)) ?_
  obtain ⟨s6, hc5, h⟩ := bu_so h
  have hq4 : Q 1 sio tt cc d 60 0 [some (.ref c0), some (.int y1), some (.int y2), some (.int (if r3 < x6 then r3 else x6))] [] s (.inl none, s6) := dt60 (by omega) hl hk_c0 hc5
  refine Q.callV (gC_vi zm136 (show zM136.2.2.2.2.2[56]? = some (104, 3, .invokevirtual 51, [0, 60, 3, 3]) from rfl) zm60 hk_c0.1 (hl.tr hk_c0).1 rfl (show aCr 3 c0 [.int (if r3 < x6 then r3 else x6), .int y2, .int y1, .ref c0] 4 = some ([some (.ref c0), some (.int y1), some (.int y2), some (.int (if r3 < x6 then r3 else x6))], []) from rfl)) hq4 ?_
  have hr7 : aK s6 c0 3 := hq4.2.1.k hk_c0
  refine Q.run zm136 2 (i' := 59) (ls' := [some (.ref b0), some (.int x1), some (.int x2), some (.int x3), some (.int x4), some (.int x5), some (.int x6)]) (st' := [.int x2, .int x5]) rfl ?_
  obtain ⟨r10, hc9, h⟩ := bu_so h
  have hq8 : Q 1 sio tt cc d 132 0 [some (.int x2)] [] s6 (.inl (some (.int r10)), s6) := dt132 (by omega) hq4.1  hc9
  refine Q.callI (gC_st zm136 (show zM136.2.2.2.2.2[59]? = some (110, 3, .invokestatic 106, [0, 132, 1]) from rfl) zm132 (show aC 1 [.int x2, .int x5] 1 = some ([some (.int x2)], [.int x5]) from rfl)) hq8 ?_
  by_cases hc11 : r10 < x5
  · rw [if_pos hc11] at h
    refine Q.map (A.bT (gI_of zm136 (e := (113, 3, .if_icmp .gt 7, [63])) rfl) (decide_eq_true hc11)) ?_
    refine Q.run zm136 1 (i' := 64) (ls' := [some (.ref b0), some (.int x1), some (.int x2), some (.int x3), some (.int x4), some (.int x5), some (.int x6)]) (st' := [.int 0]) rfl ?_
    cases h
    exact Q.ret (A.ri zm136 (show zM136.2.2.2.2.2[64]? = some (121, 1, .ireturn, []) from rfl) rfl rfl) hq4.1
  · rw [if_neg hc11] at h
    refine Q.map (A.bF (gI_of zm136 (e := (113, 3, .if_icmp .gt 7, [63])) rfl) (fun q => hc11 (of_decide_eq_true q))) ?_
    refine Q.run zm136 2 (i' := 64) (ls' := [some (.ref b0), some (.int x1), some (.int x2), some (.int x3), some (.int x4), some (.int x5), some (.int x6)]) (st' := [.int 1]) rfl ?_
    cases h
    exact Q.ret (A.ri zm136 (show zM136.2.2.2.2.2[64]? = some (121, 1, .ireturn, []) from rfl) rfl rfl) hq4.1
def dm136_43 (b0 : Nat) (x1 : Int32) (x2 : Int32) (x5 : Int32) (x6 : Int32) (c0 : Nat) (y1 : Int32) (y2 : Int32) (s : aS) : Option (Int32 × aS) :=
  bu (dm60 c0 y1 y2 x5 s) fun s3 =>
  if x2 = 0 then
    dm136_52 x2 x5 x6 b0 x1 6 s3
  else
    dm136_52 x2 x5 x6 b0 x1 5 s3
set_option maxRecDepth 100000 in
theorem dt136_43 {sio : Bool} {tt : Nat} {cc : Nat → Nat → Int32} {d : Nat} (hd : 1 ≤ d) {b0 : Nat} {x1 : Int32} {x2 : Int32} {x5 : Int32} {x6 : Int32} {c0 : Nat} {y1 : Int32} {y2 : Int32} {x3 : Int32} {x4 : Int32} {s : aS} (hl : Ly tt cc s) (hk_b0 : aK s b0 3) (hk_c0 : aK s c0 3) {o : Int32 × aS} (h : dm136_43  b0 x1 x2 x5 x6 c0 y1 y2 s = some o) : Q 1 sio tt cc d 136 43 [some (.ref b0), some (.int x1), some (.int x2), some (.int x3), some (.int x4), some (.int x5), some (.int x6)] [.int y2, .int y1, .ref c0] s (.inl (some (.int o.1)), o.2) := by
  unfold dm136_43 at h
  obtain ⟨d, rfl⟩ : ∃ e, d = e + 1 := ⟨d - 1, by omega⟩
  refine Q.run zm136 1 (i' := 44) (ls' := [some (.ref b0), some (.int x1), some (.int x2), some (.int x3), some (.int x4), some (.int x5), some (.int x6)]) (st' := [.int x5, .int y2, .int y1, .ref c0]) rfl ?_
  obtain ⟨s3, hc2, h⟩ := bu_so h
  have hq1 : Q 1 sio tt cc d 60 0 [some (.ref c0), some (.int y1), some (.int y2), some (.int x5)] [] s (.inl none, s3) := dt60 (by omega) hl hk_c0 hc2
  refine Q.callV (gC_vi zm136 (show zM136.2.2.2.2.2[44]? = some (80, 3, .invokevirtual 51, [0, 60, 3, 3]) from rfl) zm60 hk_c0.1 (hl.tr hk_c0).1 rfl (show aCr 3 c0 [.int x5, .int y2, .int y1, .ref c0] 4 = some ([some (.ref c0), some (.int y1), some (.int y2), some (.int x5)], []) from rfl)) hq1 ?_
  have hr4 : aK s3 b0 3 := hq1.2.1.k hk_b0
  have hr5 : aK s3 c0 3 := hq1.2.1.k hk_c0
  refine Q.run zm136 3 (i' := 48) (ls' := [some (.ref b0), some (.int x1), some (.int x2), some (.int x3), some (.int x4), some (.int x5), some (.int x6)]) (st' := [.int x2, .int x1, .ref b0]) rfl ?_
  by_cases hc6 : x2 = 0
  · rw [if_pos hc6] at h
    refine Q.map (A.zT (gI_of zm136 (e := (86, 3, .ifCond .eq 7, [51])) rfl) (decide_eq_true hc6)) ?_
    refine Q.run zm136 1 (i' := 52) (ls' := [some (.ref b0), some (.int x1), some (.int x2), some (.int x3), some (.int x4), some (.int x5), some (.int x6)]) (st' := [.int 6, .int x1, .ref b0]) rfl ?_
    exact dt136_52 hd hq1.1 hr4 h
  · rw [if_neg hc6] at h
    refine Q.map (A.zF (gI_of zm136 (e := (86, 3, .ifCond .eq 7, [51])) rfl) (fun q => hc6 (of_decide_eq_true q))) ?_
    refine Q.run zm136 2 (i' := 52) (ls' := [some (.ref b0), some (.int x1), some (.int x2), some (.int x3), some (.int x4), some (.int x5), some (.int x6)]) (st' := [.int 5, .int x1, .ref b0]) rfl ?_
    exact dt136_52 hd hq1.1 hr4 h
def dm136_34 (b0 : Nat) (x1 : Int32) (x2 : Int32) (x5 : Int32) (y0 : Int32) (y1 : Int32) (s : aS) : Option (Int32 × aS) :=
  if x2 = 0 then
    dm136_43 b0 x1 x2 x5 (y0 + y1) b0 x1 4 s
  else
    dm136_43 b0 x1 x2 x5 (y0 + y1) b0 x1 3 s
set_option maxRecDepth 100000 in
theorem dt136_34 {sio : Bool} {tt : Nat} {cc : Nat → Nat → Int32} {d : Nat} (hd : 1 ≤ d) {b0 : Nat} {x1 : Int32} {x2 : Int32} {x5 : Int32} {y0 : Int32} {y1 : Int32} {x3 : Int32} {x4 : Int32} {x6 : Int32} {s : aS} (hl : Ly tt cc s) (hk_b0 : aK s b0 3) {o : Int32 × aS} (h : dm136_34  b0 x1 x2 x5 y0 y1 s = some o) : Q 1 sio tt cc d 136 34 [some (.ref b0), some (.int x1), some (.int x2), some (.int x3), some (.int x4), some (.int x5), some (.int x6)] [.int y1, .int y0] s (.inl (some (.int o.1)), o.2) := by
  unfold dm136_34 at h
  obtain ⟨d, rfl⟩ : ∃ e, d = e + 1 := ⟨d - 1, by omega⟩
  refine Q.run zm136 5 (i' := 39) (ls' := [some (.ref b0), some (.int x1), some (.int x2), some (.int x3), some (.int x4), some (.int x5), some (.int (y0 + y1))]) (st' := [.int x2, .int x1, .ref b0]) rfl ?_
  by_cases hc1 : x2 = 0
  · rw [if_pos hc1] at h
    refine Q.map (A.zT (gI_of zm136 (e := (70, 3, .ifCond .eq 7, [42])) rfl) (decide_eq_true hc1)) ?_
    refine Q.run zm136 1 (i' := 43) (ls' := [some (.ref b0), some (.int x1), some (.int x2), some (.int x3), some (.int x4), some (.int x5), some (.int (y0 + y1))]) (st' := [.int 4, .int x1, .ref b0]) rfl ?_
    exact dt136_43 hd hl hk_b0 hk_b0 h
  · rw [if_neg hc1] at h
    refine Q.map (A.zF (gI_of zm136 (e := (70, 3, .ifCond .eq 7, [42])) rfl) (fun q => hc1 (of_decide_eq_true q))) ?_
    refine Q.run zm136 2 (i' := 43) (ls' := [some (.ref b0), some (.int x1), some (.int x2), some (.int x3), some (.int x4), some (.int x5), some (.int (y0 + y1))]) (st' := [.int 3, .int x1, .ref b0]) rfl ?_
    exact dt136_43 hd hl hk_b0 hk_b0 h
def dm136_25 (b0 : Nat) (x1 : Int32) (x2 : Int32) (x3 : Int32) (x4 : Int32) (x6 : Int32) (y0 : Int32) (y1 : Int32) (s : aS) : Option (Int32 × aS) :=
  if x6 < x3 then
    dm136_34 b0 x1 x2 (y0 + y1) x6 0 s
  else
    dm136_34 b0 x1 x2 (y0 + y1) x6 x4 s
set_option maxRecDepth 100000 in
theorem dt136_25 {sio : Bool} {tt : Nat} {cc : Nat → Nat → Int32} {d : Nat} (hd : 1 ≤ d) {b0 : Nat} {x1 : Int32} {x2 : Int32} {x3 : Int32} {x4 : Int32} {x6 : Int32} {y0 : Int32} {y1 : Int32} {x5 : Int32} {s : aS} (hl : Ly tt cc s) (hk_b0 : aK s b0 3) {o : Int32 × aS} (h : dm136_25  b0 x1 x2 x3 x4 x6 y0 y1 s = some o) : Q 1 sio tt cc d 136 25 [some (.ref b0), some (.int x1), some (.int x2), some (.int x3), some (.int x4), some (.int x5), some (.int x6)] [.int y1, .int y0] s (.inl (some (.int o.1)), o.2) := by
  unfold dm136_25 at h
  obtain ⟨d, rfl⟩ : ∃ e, d = e + 1 := ⟨d - 1, by omega⟩
  refine Q.run zm136 5 (i' := 30) (ls' := [some (.ref b0), some (.int x1), some (.int x2), some (.int x3), some (.int x4), some (.int (y0 + y1)), some (.int x6)]) (st' := [.int x3, .int x6, .int x6]) rfl ?_
  by_cases hc1 : x6 < x3
  · rw [if_pos hc1] at h
    refine Q.map (A.bT (gI_of zm136 (e := (55, 3, .if_icmp .lt 8, [33])) rfl) (decide_eq_true hc1)) ?_
    refine Q.run zm136 1 (i' := 34) (ls' := [some (.ref b0), some (.int x1), some (.int x2), some (.int x3), some (.int x4), some (.int (y0 + y1)), some (.int x6)]) (st' := [.int 0, .int x6]) rfl ?_
    exact dt136_34 hd hl hk_b0 h
  · rw [if_neg hc1] at h
    refine Q.map (A.bF (gI_of zm136 (e := (55, 3, .if_icmp .lt 8, [33])) rfl) (fun q => hc1 (of_decide_eq_true q))) ?_
    refine Q.run zm136 2 (i' := 34) (ls' := [some (.ref b0), some (.int x1), some (.int x2), some (.int x3), some (.int x4), some (.int (y0 + y1)), some (.int x6)]) (st' := [.int x4, .int x6]) rfl ?_
    exact dt136_34 hd hl hk_b0 h
def dm136_16 (b0 : Nat) (x1 : Int32) (x2 : Int32) (x3 : Int32) (x4 : Int32) (x5 : Int32) (c0 : Nat) (y1 : Int32) (y2 : Int32) (s : aS) : Option (Int32 × aS) :=
  bu (dm57 c0 y1 y2 s) fun r3 =>
  if x5 < x3 then
    dm136_25 b0 x1 x2 x3 x4 r3 x5 0 s
  else
    dm136_25 b0 x1 x2 x3 x4 r3 x5 x4 s
set_option maxRecDepth 100000 in
theorem dt136_16 {sio : Bool} {tt : Nat} {cc : Nat → Nat → Int32} {d : Nat} (hd : 1 ≤ d) {b0 : Nat} {x1 : Int32} {x2 : Int32} {x3 : Int32} {x4 : Int32} {x5 : Int32} {c0 : Nat} {y1 : Int32} {y2 : Int32} {s : aS} (hl : Ly tt cc s) (hk_b0 : aK s b0 3) (hk_c0 : aK s c0 3) {o : Int32 × aS} (h : dm136_16  b0 x1 x2 x3 x4 x5 c0 y1 y2 s = some o) : Q 1 sio tt cc d 136 16 [some (.ref b0), some (.int x1), some (.int x2), some (.int x3), some (.int x4), some (.int x5), none] [.int y2, .int y1, .ref c0] s (.inl (some (.int o.1)), o.2) := by
  unfold dm136_16 at h
  obtain ⟨d, rfl⟩ : ∃ e, d = e + 1 := ⟨d - 1, by omega⟩
  obtain ⟨r3, hc2, h⟩ := bu_so h
  have hq1 : Q 1 sio tt cc d 57 0 [some (.ref c0), some (.int y1), some (.int y2), none] [] s (.inl (some (.int r3)), s) := dt57 (by omega) hl hk_c0 hc2
  refine Q.callI (gC_vi zm136 (show zM136.2.2.2.2.2[16]? = some (28, 3, .invokevirtual 28, [0, 57, 2, 3]) from rfl) zm57 hk_c0.1 (hl.tr hk_c0).1 rfl (show aCr 2 c0 [.int y2, .int y1, .ref c0] 4 = some ([some (.ref c0), some (.int y1), some (.int y2), none], []) from rfl)) hq1 ?_
  refine Q.run zm136 4 (i' := 21) (ls' := [some (.ref b0), some (.int x1), some (.int x2), some (.int x3), some (.int x4), some (.int x5), some (.int r3)]) (st' := [.int x3, .int x5, .int x5]) rfl ?_
  by_cases hc4 : x5 < x3
  · rw [if_pos hc4] at h
    refine Q.map (A.bT (gI_of zm136 (e := (38, 3, .if_icmp .lt 8, [24])) rfl) (decide_eq_true hc4)) ?_
    refine Q.run zm136 1 (i' := 25) (ls' := [some (.ref b0), some (.int x1), some (.int x2), some (.int x3), some (.int x4), some (.int x5), some (.int r3)]) (st' := [.int 0, .int x5]) rfl ?_
    exact dt136_25 hd hl hk_b0 h
  · rw [if_neg hc4] at h
    refine Q.map (A.bF (gI_of zm136 (e := (38, 3, .if_icmp .lt 8, [24])) rfl) (fun q => hc4 (of_decide_eq_true q))) ?_
    refine Q.run zm136 2 (i' := 25) (ls' := [some (.ref b0), some (.int x1), some (.int x2), some (.int x3), some (.int x4), some (.int x5), some (.int r3)]) (st' := [.int x4, .int x5]) rfl ?_
    exact dt136_25 hd hl hk_b0 h
def dm136_7 (b0 : Nat) (x1 : Int32) (x2 : Int32) (x3 : Int32) (x4 : Int32) (c0 : Nat) (y1 : Int32) (y2 : Int32) (s : aS) : Option (Int32 × aS) :=
  bu (dm57 c0 y1 y2 s) fun r3 =>
  if x2 = 0 then
    dm136_16 b0 x1 x2 x3 x4 r3 b0 x1 6 s
  else
    dm136_16 b0 x1 x2 x3 x4 r3 b0 x1 5 s
set_option maxRecDepth 100000 in
theorem dt136_7 {sio : Bool} {tt : Nat} {cc : Nat → Nat → Int32} {d : Nat} (hd : 1 ≤ d) {b0 : Nat} {x1 : Int32} {x2 : Int32} {x3 : Int32} {x4 : Int32} {c0 : Nat} {y1 : Int32} {y2 : Int32} {s : aS} (hl : Ly tt cc s) (hk_b0 : aK s b0 3) (hk_c0 : aK s c0 3) {o : Int32 × aS} (h : dm136_7  b0 x1 x2 x3 x4 c0 y1 y2 s = some o) : Q 1 sio tt cc d 136 7 [some (.ref b0), some (.int x1), some (.int x2), some (.int x3), some (.int x4), none, none] [.int y2, .int y1, .ref c0] s (.inl (some (.int o.1)), o.2) := by
  unfold dm136_7 at h
  obtain ⟨d, rfl⟩ : ∃ e, d = e + 1 := ⟨d - 1, by omega⟩
  obtain ⟨r3, hc2, h⟩ := bu_so h
  have hq1 : Q 1 sio tt cc d 57 0 [some (.ref c0), some (.int y1), some (.int y2), none] [] s (.inl (some (.int r3)), s) := dt57 (by omega) hl hk_c0 hc2
  refine Q.callI (gC_vi zm136 (show zM136.2.2.2.2.2[7]? = some (11, 3, .invokevirtual 28, [0, 57, 2, 3]) from rfl) zm57 hk_c0.1 (hl.tr hk_c0).1 rfl (show aCr 2 c0 [.int y2, .int y1, .ref c0] 4 = some ([some (.ref c0), some (.int y1), some (.int y2), none], []) from rfl)) hq1 ?_
  refine Q.run zm136 4 (i' := 12) (ls' := [some (.ref b0), some (.int x1), some (.int x2), some (.int x3), some (.int x4), some (.int r3), none]) (st' := [.int x2, .int x1, .ref b0]) rfl ?_
  by_cases hc4 : x2 = 0
  · rw [if_pos hc4] at h
    refine Q.map (A.zT (gI_of zm136 (e := (19, 3, .ifCond .eq 7, [15])) rfl) (decide_eq_true hc4)) ?_
    refine Q.run zm136 1 (i' := 16) (ls' := [some (.ref b0), some (.int x1), some (.int x2), some (.int x3), some (.int x4), some (.int r3), none]) (st' := [.int 6, .int x1, .ref b0]) rfl ?_
    exact dt136_16 hd hl hk_b0 hk_b0 h
  · rw [if_neg hc4] at h
    refine Q.map (A.zF (gI_of zm136 (e := (19, 3, .ifCond .eq 7, [15])) rfl) (fun q => hc4 (of_decide_eq_true q))) ?_
    refine Q.run zm136 2 (i' := 16) (ls' := [some (.ref b0), some (.int x1), some (.int x2), some (.int x3), some (.int x4), some (.int r3), none]) (st' := [.int 5, .int x1, .ref b0]) rfl ?_
    exact dt136_16 hd hl hk_b0 hk_b0 h
def dm136 (b0 : Nat) (x1 : Int32) (x2 : Int32) (x3 : Int32) (x4 : Int32) (s : aS) : Option (Int32 × aS) :=
  if x2 = 0 then
    dm136_7 b0 x1 x2 x3 x4 b0 x1 4 s
  else
    dm136_7 b0 x1 x2 x3 x4 b0 x1 3 s
set_option maxRecDepth 100000 in
theorem dt136 {sio : Bool} {tt : Nat} {cc : Nat → Nat → Int32} {d : Nat} (hd : 1 ≤ d) {b0 : Nat} {x1 : Int32} {x2 : Int32} {x3 : Int32} {x4 : Int32} {s : aS} (hl : Ly tt cc s) (hk_b0 : aK s b0 3) {o : Int32 × aS} (h : dm136  b0 x1 x2 x3 x4 s = some o) : Q 1 sio tt cc d 136 0 [some (.ref b0), some (.int x1), some (.int x2), some (.int x3), some (.int x4), none, none] [] s (.inl (some (.int o.1)), o.2) := by
  unfold dm136 at h
  obtain ⟨d, rfl⟩ : ∃ e, d = e + 1 := ⟨d - 1, by omega⟩
  refine Q.run zm136 3 (i' := 3) (ls' := [some (.ref b0), some (.int x1), some (.int x2), some (.int x3), some (.int x4), none, none]) (st' := [.int x2, .int x1, .ref b0]) rfl ?_
  by_cases hc1 : x2 = 0
  · rw [if_pos hc1] at h
    refine Q.map (A.zT (gI_of zm136 (e := (3, 3, .ifCond .eq 7, [6])) rfl) (decide_eq_true hc1)) ?_
    refine Q.run zm136 1 (i' := 7) (ls' := [some (.ref b0), some (.int x1), some (.int x2), some (.int x3), some (.int x4), none, none]) (st' := [.int 4, .int x1, .ref b0]) rfl ?_
    exact dt136_7 hd hl hk_b0 hk_b0 h
  · rw [if_neg hc1] at h
    refine Q.map (A.zF (gI_of zm136 (e := (3, 3, .ifCond .eq 7, [6])) rfl) (fun q => hc1 (of_decide_eq_true q))) ?_
    refine Q.run zm136 2 (i' := 7) (ls' := [some (.ref b0), some (.int x1), some (.int x2), some (.int x3), some (.int x4), none, none]) (st' := [.int 3, .int x1, .ref b0]) rfl ?_
    exact dt136_7 hd hl hk_b0 hk_b0 h
/-! 134 FormulaTrees$Tree.shiftOn(IZZII)I -/
set_option maxRecDepth 100000 in
theorem zm134 : zP[134]? = some zM134 := rfl
def dm134_48 (k4 : Nat → Int32 → Int32 → Int32 → Int32 → Int32 → Int32 → Int32 → aS → Option (Int32 × aS)) (b0 : Nat) (x1 : Int32) (x2 : Int32) (x3 : Int32) (x4 : Int32) (x5 : Int32) (x6 : Int32) (x7 : Int32) (s : aS) : Option (Int32 × aS) :=
  k4 b0 x1 x2 x3 x4 x5 x6 (x7 + 1) s
set_option maxRecDepth 100000 in
theorem dt134_48 {sio : Bool} {tt : Nat} {cc : Nat → Nat → Int32} {d : Nat} (hd : 2 ≤ d) {k4 : Nat → Int32 → Int32 → Int32 → Int32 → Int32 → Int32 → Int32 → aS → Option (Int32 × aS)} (hk4 : ∀ {b0 : Nat} {x1 : Int32} {x2 : Int32} {x3 : Int32} {x4 : Int32} {x5 : Int32} {x6 : Int32} {x7 : Int32} {g8 : Option Value} {g9 : Option Value} {s : aS}, Ly tt cc s → aK s b0 3 → ∀ {o : Int32 × aS}, k4 b0 x1 x2 x3 x4 x5 x6 x7 s = some o → Q 1 sio tt cc d 134 4 [some (.ref b0), some (.int x1), some (.int x2), some (.int x3), some (.int x4), some (.int x5), some (.int x6), some (.int x7), g8, g9] [] s (.inl (some (.int o.1)), o.2)) {b0 : Nat} {x1 : Int32} {x2 : Int32} {x3 : Int32} {x4 : Int32} {x5 : Int32} {x6 : Int32} {x7 : Int32} {x8 : Int32} {g9 : Option Value} {s : aS} (hl : Ly tt cc s) (hk_b0 : aK s b0 3) {o : Int32 × aS} (h : dm134_48 k4 b0 x1 x2 x3 x4 x5 x6 x7 s = some o) : Q 1 sio tt cc d 134 48 [some (.ref b0), some (.int x1), some (.int x2), some (.int x3), some (.int x4), some (.int x5), some (.int x6), some (.int x7), some (.int x8), g9] [] s (.inl (some (.int o.1)), o.2) := by
  unfold dm134_48 at h
  obtain ⟨d, rfl⟩ : ∃ e, d = e + 1 := ⟨d - 1, by omega⟩
  refine Q.run zm134 2 (i' := 4) (ls' := [some (.ref b0), some (.int x1), some (.int x2), some (.int x3), some (.int x4), some (.int x5), some (.int x6), some (.int (x7 + 1)), some (.int x8), g9]) (st' := []) rfl ?_
  exact hk4 hl hk_b0 h
def dm134_41 (k4 : Nat → Int32 → Int32 → Int32 → Int32 → Int32 → Int32 → Int32 → aS → Option (Int32 × aS)) (b0 : Nat) (x1 : Int32) (x2 : Int32) (x3 : Int32) (x4 : Int32) (x5 : Int32) (x6 : Int32) (x7 : Int32) (y0 : Int32) (s : aS) : Option (Int32 × aS) :=
  if y0 = 0 then
    bu (dm58 b0 x7 s) fun s4 =>
    dm134_48 k4 b0 x1 x2 x3 x4 x5 (x6 + 1) x7 s4
  else
    dm134_48 k4 b0 x1 x2 x3 x4 x5 x6 x7 s
set_option maxRecDepth 100000 in
theorem dt134_41 {sio : Bool} {tt : Nat} {cc : Nat → Nat → Int32} {d : Nat} (hd : 2 ≤ d) {k4 : Nat → Int32 → Int32 → Int32 → Int32 → Int32 → Int32 → Int32 → aS → Option (Int32 × aS)} (hk4 : ∀ {b0 : Nat} {x1 : Int32} {x2 : Int32} {x3 : Int32} {x4 : Int32} {x5 : Int32} {x6 : Int32} {x7 : Int32} {g8 : Option Value} {g9 : Option Value} {s : aS}, Ly tt cc s → aK s b0 3 → ∀ {o : Int32 × aS}, k4 b0 x1 x2 x3 x4 x5 x6 x7 s = some o → Q 1 sio tt cc d 134 4 [some (.ref b0), some (.int x1), some (.int x2), some (.int x3), some (.int x4), some (.int x5), some (.int x6), some (.int x7), g8, g9] [] s (.inl (some (.int o.1)), o.2)) {b0 : Nat} {x1 : Int32} {x2 : Int32} {x3 : Int32} {x4 : Int32} {x5 : Int32} {x6 : Int32} {x7 : Int32} {y0 : Int32} {x8 : Int32} {g9 : Option Value} {s : aS} (hl : Ly tt cc s) (hk_b0 : aK s b0 3) {o : Int32 × aS} (h : dm134_41 k4 b0 x1 x2 x3 x4 x5 x6 x7 y0 s = some o) : Q 1 sio tt cc d 134 41 [some (.ref b0), some (.int x1), some (.int x2), some (.int x3), some (.int x4), some (.int x5), some (.int x6), some (.int x7), some (.int x8), g9] [.int y0] s (.inl (some (.int o.1)), o.2) := by
  unfold dm134_41 at h
  obtain ⟨d, rfl⟩ : ∃ e, d = e + 1 := ⟨d - 1, by omega⟩
  refine Q.run zm134 2 (i' := 43) (ls' := [some (.ref b0), some (.int x1), some (.int x2), some (.int x3), some (.int x4), some (.int x5), some (.int x6), some (.int x7), some (.int x8), some (.int y0)]) (st' := [.int y0]) rfl ?_
  by_cases hc1 : y0 = 0
  · rw [if_pos hc1] at h
    refine Q.map (A.zF (gI_of zm134 (e := (84, 3, .ifCond .ne 12, [48])) rfl) (fun q => of_decide_eq_true q hc1)) ?_
    refine Q.run zm134 2 (i' := 46) (ls' := [some (.ref b0), some (.int x1), some (.int x2), some (.int x3), some (.int x4), some (.int x5), some (.int x6), some (.int x7), some (.int x8), some (.int y0)]) (st' := [.int x7, .ref b0]) rfl ?_
    obtain ⟨s4, hc3, h⟩ := bu_so h
    have hq2 : Q 1 sio tt cc d 58 0 [some (.ref b0), some (.int x7)] [] s (.inl none, s4) := dt58 (by omega) hl hk_b0 hc3
    refine Q.callV (gC_vi zm134 (show zM134.2.2.2.2.2[46]? = some (90, 3, .invokevirtual 92, [0, 58, 1, 3]) from rfl) zm58 hk_b0.1 (hl.tr hk_b0).1 rfl (show aCr 1 b0 [.int x7, .ref b0] 2 = some ([some (.ref b0), some (.int x7)], []) from rfl)) hq2 ?_
    have hr5 : aK s4 b0 3 := hq2.2.1.k hk_b0
    refine Q.run zm134 1 (i' := 48) (ls' := [some (.ref b0), some (.int x1), some (.int x2), some (.int x3), some (.int x4), some (.int x5), some (.int (x6 + 1)), some (.int x7), some (.int x8), some (.int y0)]) (st' := []) rfl ?_
    exact dt134_48 hd hk4 hq2.1 hr5 h
  · rw [if_neg hc1] at h
    refine Q.map (A.zT (gI_of zm134 (e := (84, 3, .ifCond .ne 12, [48])) rfl) (decide_eq_true hc1)) ?_
    exact dt134_48 hd hk4 hl hk_b0 h
def dm134_25 (k4 : Nat → Int32 → Int32 → Int32 → Int32 → Int32 → Int32 → Int32 → aS → Option (Int32 × aS)) (b0 : Nat) (x1 : Int32) (x2 : Int32) (x3 : Int32) (x4 : Int32) (x5 : Int32) (x6 : Int32) (x7 : Int32) (s : aS) : Option (Int32 × aS) :=
  if 0 ≤ x5 then
    bv (dm136 b0 x7 x3 x4 x5 s) fun r5 s4 =>
    dm134_41 k4 b0 x1 x2 x3 x4 x5 x6 x7 r5 s4
  else
    bv (dm135 b0 x7 x3 x4 (-x5) s) fun r10 s9 =>
    dm134_41 k4 b0 x1 x2 x3 x4 x5 x6 x7 r10 s9
set_option maxRecDepth 100000 in
theorem dt134_25 {sio : Bool} {tt : Nat} {cc : Nat → Nat → Int32} {d : Nat} (hd : 2 ≤ d) {k4 : Nat → Int32 → Int32 → Int32 → Int32 → Int32 → Int32 → Int32 → aS → Option (Int32 × aS)} (hk4 : ∀ {b0 : Nat} {x1 : Int32} {x2 : Int32} {x3 : Int32} {x4 : Int32} {x5 : Int32} {x6 : Int32} {x7 : Int32} {g8 : Option Value} {g9 : Option Value} {s : aS}, Ly tt cc s → aK s b0 3 → ∀ {o : Int32 × aS}, k4 b0 x1 x2 x3 x4 x5 x6 x7 s = some o → Q 1 sio tt cc d 134 4 [some (.ref b0), some (.int x1), some (.int x2), some (.int x3), some (.int x4), some (.int x5), some (.int x6), some (.int x7), g8, g9] [] s (.inl (some (.int o.1)), o.2)) {b0 : Nat} {x1 : Int32} {x2 : Int32} {x3 : Int32} {x4 : Int32} {x5 : Int32} {x6 : Int32} {x7 : Int32} {x8 : Int32} {g9 : Option Value} {s : aS} (hl : Ly tt cc s) (hk_b0 : aK s b0 3) {o : Int32 × aS} (h : dm134_25 k4 b0 x1 x2 x3 x4 x5 x6 x7 s = some o) : Q 1 sio tt cc d 134 25 [some (.ref b0), some (.int x1), some (.int x2), some (.int x3), some (.int x4), some (.int x5), some (.int x6), some (.int x7), some (.int x8), g9] [] s (.inl (some (.int o.1)), o.2) := by
  unfold dm134_25 at h
  obtain ⟨d, rfl⟩ : ∃ e, d = e + 1 := ⟨d - 1, by omega⟩
  refine Q.run zm134 1 (i' := 26) (ls' := [some (.ref b0), some (.int x1), some (.int x2), some (.int x3), some (.int x4), some (.int x5), some (.int x6), some (.int x7), some (.int x8), g9]) (st' := [.int x5]) rfl ?_
  by_cases hc1 : 0 ≤ x5
  · rw [if_pos hc1] at h
    refine Q.map (A.zT (gI_of zm134 (e := (51, 3, .ifCond .ge 18, [35])) rfl) (decide_eq_true hc1)) ?_
    refine Q.run zm134 5 (i' := 40) (ls' := [some (.ref b0), some (.int x1), some (.int x2), some (.int x3), some (.int x4), some (.int x5), some (.int x6), some (.int x7), some (.int x8), g9]) (st' := [.int x5, .int x4, .int x3, .int x7, .ref b0]) rfl ?_
    obtain ⟨r5, s4, hc3, h⟩ := bv_so h
    have hq2 : Q 1 sio tt cc d 136 0 [some (.ref b0), some (.int x7), some (.int x3), some (.int x4), some (.int x5), none, none] [] s (.inl (some (.int r5)), s4) := dt136 (by omega) hl hk_b0 hc3
    refine Q.callI (gC_vi zm134 (show zM134.2.2.2.2.2[40]? = some (77, 3, .invokevirtual 114, [0, 136, 4, 3]) from rfl) zm136 hk_b0.1 (hl.tr hk_b0).1 rfl (show aCr 4 b0 [.int x5, .int x4, .int x3, .int x7, .ref b0] 7 = some ([some (.ref b0), some (.int x7), some (.int x3), some (.int x4), some (.int x5), none, none], []) from rfl)) hq2 ?_
    have hr6 : aK s4 b0 3 := hq2.2.1.k hk_b0
    exact dt134_41 hd hk4 hq2.1 hr6 h
  · rw [if_neg hc1] at h
    refine Q.map (A.zF (gI_of zm134 (e := (51, 3, .ifCond .ge 18, [35])) rfl) (fun q => hc1 (of_decide_eq_true q))) ?_
    refine Q.run zm134 6 (i' := 33) (ls' := [some (.ref b0), some (.int x1), some (.int x2), some (.int x3), some (.int x4), some (.int x5), some (.int x6), some (.int x7), some (.int x8), g9]) (st' := [.int (-x5), .int x4, .int x3, .int x7, .ref b0]) rfl ?_
    obtain ⟨r10, s9, hc8, h⟩ := bv_so h
    have hq7 : Q 1 sio tt cc d 135 0 [some (.ref b0), some (.int x7), some (.int x3), some (.int x4), some (.int (-x5)), none, none, none, none] [] s (.inl (some (.int r10)), s9) := dt135 (by omega) hl hk_b0 hc8
    refine Q.callI (gC_vi zm134 (show zM134.2.2.2.2.2[33]? = some (63, 3, .invokevirtual 110, [0, 135, 4, 3]) from rfl) zm135 hk_b0.1 (hl.tr hk_b0).1 rfl (show aCr 4 b0 [.int (-x5), .int x4, .int x3, .int x7, .ref b0] 9 = some ([some (.ref b0), some (.int x7), some (.int x3), some (.int x4), some (.int (-x5)), none, none, none, none], []) from rfl)) hq7 ?_
    have hr11 : aK s9 b0 3 := hq7.2.1.k hk_b0
    refine Q.run zm134 1 (i' := 41) (ls' := [some (.ref b0), some (.int x1), some (.int x2), some (.int x3), some (.int x4), some (.int x5), some (.int x6), some (.int x7), some (.int x8), g9]) (st' := [.int r10]) rfl ?_
    exact dt134_41 hd hk4 hq7.1 hr11 h
def dm134_4 : Nat → Nat → Int32 → Int32 → Int32 → Int32 → Int32 → Int32 → Int32 → aS → Option (Int32 × aS)
  | 0, _, _, _, _, _, _, _, _, _ => none
  | n + 1, b0, x1, x2, x3, x4, x5, x6, x7, s =>
    if (sI s b0 2) ≤ x7 then
      some (x6, s)
    else
      bu (dm57 b0 x7 2 s) fun r4 =>
      bu (dm129 b0 x7 s) fun r7 =>
      if r7 = 0 then
        dm134_48 (dm134_4 n) b0 x1 x2 x3 x4 x5 x6 x7 s
      else
        if r4 = x1 then
          dm134_25 (dm134_4 n) b0 x1 x2 x3 x4 x5 x6 x7 s
        else
          if r4 = (-1) then
            if x2 = 0 then
              dm134_48 (dm134_4 n) b0 x1 x2 x3 x4 x5 x6 x7 s
            else
              dm134_25 (dm134_4 n) b0 x1 x2 x3 x4 x5 x6 x7 s
          else
            dm134_48 (dm134_4 n) b0 x1 x2 x3 x4 x5 x6 x7 s
set_option maxRecDepth 100000 in
theorem dt134_4 {sio : Bool} {tt : Nat} {cc : Nat → Nat → Int32} {d : Nat} (hd : 2 ≤ d) : ∀ (n : Nat) {b0 : Nat} {x1 : Int32} {x2 : Int32} {x3 : Int32} {x4 : Int32} {x5 : Int32} {x6 : Int32} {x7 : Int32} {g8 : Option Value} {g9 : Option Value} {s : aS} (_ : Ly tt cc s) (_ : aK s b0 3) {o : Int32 × aS} (_ : dm134_4  n b0 x1 x2 x3 x4 x5 x6 x7 s = some o), Q 1 sio tt cc d 134 4 [some (.ref b0), some (.int x1), some (.int x2), some (.int x3), some (.int x4), some (.int x5), some (.int x6), some (.int x7), g8, g9] [] s (.inl (some (.int o.1)), o.2) := by
  obtain ⟨d, rfl⟩ : ∃ e, d = e + 1 := ⟨d - 1, by omega⟩
  intro n
  induction n with
  | zero => intro b0 x1 x2 x3 x4 x5 x6 x7 g8 g9 s hl hk_b0 o h; rw [dm134_4] at h; cases h
  | succ n ih =>
    intro b0 x1 x2 x3 x4 x5 x6 x7 g8 g9 s hl hk_b0 o h
    rw [dm134_4] at h
    refine Q.run zm134 2 (i' := 6) (ls' := [some (.ref b0), some (.int x1), some (.int x2), some (.int x3), some (.int x4), some (.int x5), some (.int x6), some (.int x7), g8, g9]) (st' := [.ref b0, .int x7]) rfl ?_
    refine Q.map (A.gf (gI_of zm134 (e := (9, 3, .getfield 24, [3, 2])) rfl) hk_b0.1 (hl.tr hk_b0).1 (by decide) rfl) ?_
    by_cases hc1 : (sI s b0 2) ≤ x7
    · rw [if_pos hc1] at h
      refine Q.map (A.bT (gI_of zm134 (e := (12, 3, .if_icmp .ge 90, [50])) rfl) (decide_eq_true hc1)) ?_
      refine Q.run zm134 1 (i' := 51) (ls' := [some (.ref b0), some (.int x1), some (.int x2), some (.int x3), some (.int x4), some (.int x5), some (.int x6), some (.int x7), g8, g9]) (st' := [.int x6]) rfl ?_
      cases h
      exact Q.ret (A.ri zm134 (show zM134.2.2.2.2.2[51]? = some (104, 1, .ireturn, []) from rfl) rfl rfl) hl
    · rw [if_neg hc1] at h
      refine Q.map (A.bF (gI_of zm134 (e := (12, 3, .if_icmp .ge 90, [50])) rfl) (fun q => hc1 (of_decide_eq_true q))) ?_
      refine Q.run zm134 3 (i' := 11) (ls' := [some (.ref b0), some (.int x1), some (.int x2), some (.int x3), some (.int x4), some (.int x5), some (.int x6), some (.int x7), g8, g9]) (st' := [.int 2, .int x7, .ref b0]) rfl ?_
      obtain ⟨r4, hc3, h⟩ := bu_so h
      have hq2 : Q 1 sio tt cc d 57 0 [some (.ref b0), some (.int x7), some (.int 2), none] [] s (.inl (some (.int r4)), s) := dt57 (by omega) hl hk_b0 hc3
      refine Q.callI (gC_vi zm134 (show zM134.2.2.2.2.2[11]? = some (19, 3, .invokevirtual 28, [0, 57, 2, 3]) from rfl) zm57 hk_b0.1 (hl.tr hk_b0).1 rfl (show aCr 2 b0 [.int 2, .int x7, .ref b0] 4 = some ([some (.ref b0), some (.int x7), some (.int 2), none], []) from rfl)) hq2 ?_
      refine Q.run zm134 3 (i' := 15) (ls' := [some (.ref b0), some (.int x1), some (.int x2), some (.int x3), some (.int x4), some (.int x5), some (.int x6), some (.int x7), some (.int r4), g9]) (st' := [.int x7, .ref b0]) rfl ?_
      obtain ⟨r7, hc6, h⟩ := bu_so h
      have hq5 : Q 1 sio tt cc d 129 0 [some (.ref b0), some (.int x7)] [] s (.inl (some (.int r7)), s) := dt129 (by omega) hl hk_b0 hc6
      refine Q.callI (gC_vi zm134 (show zM134.2.2.2.2.2[15]? = some (27, 3, .invokevirtual 95, [0, 129, 1, 3]) from rfl) zm129 hk_b0.1 (hl.tr hk_b0).1 rfl (show aCr 1 b0 [.int x7, .ref b0] 2 = some ([some (.ref b0), some (.int x7)], []) from rfl)) hq5 ?_
      by_cases hc8 : r7 = 0
      · rw [if_pos hc8] at h
        refine Q.map (A.zT (gI_of zm134 (e := (30, 3, .ifCond .eq 66, [48])) rfl) (decide_eq_true hc8)) ?_
        exact dt134_48 hd ih hl hk_b0 h
      · rw [if_neg hc8] at h
        refine Q.map (A.zF (gI_of zm134 (e := (30, 3, .ifCond .eq 66, [48])) rfl) (fun q => hc8 (of_decide_eq_true q))) ?_
        refine Q.run zm134 2 (i' := 19) (ls' := [some (.ref b0), some (.int x1), some (.int x2), some (.int x3), some (.int x4), some (.int x5), some (.int x6), some (.int x7), some (.int r4), g9]) (st' := [.int x1, .int r4]) rfl ?_
        by_cases hc9 : r4 = x1
        · rw [if_pos hc9] at h
          refine Q.map (A.bT (gI_of zm134 (e := (36, 3, .if_icmp .eq 13, [25])) rfl) (decide_eq_true hc9)) ?_
          exact dt134_25 hd ih hl hk_b0 h
        · rw [if_neg hc9] at h
          refine Q.map (A.bF (gI_of zm134 (e := (36, 3, .if_icmp .eq 13, [25])) rfl) (fun q => hc9 (of_decide_eq_true q))) ?_
          refine Q.run zm134 2 (i' := 22) (ls' := [some (.ref b0), some (.int x1), some (.int x2), some (.int x3), some (.int x4), some (.int x5), some (.int x6), some (.int x7), some (.int r4), g9]) (st' := [.int (-1), .int r4]) rfl ?_
          by_cases hc10 : r4 = (-1)
          · rw [if_pos hc10] at h
            refine Q.map (A.bF (gI_of zm134 (e := (42, 3, .if_icmp .ne 54, [48])) rfl) (fun q => of_decide_eq_true q hc10)) ?_
            refine Q.run zm134 1 (i' := 24) (ls' := [some (.ref b0), some (.int x1), some (.int x2), some (.int x3), some (.int x4), some (.int x5), some (.int x6), some (.int x7), some (.int r4), g9]) (st' := [.int x2]) rfl ?_
            by_cases hc11 : x2 = 0
            · rw [if_pos hc11] at h
              refine Q.map (A.zT (gI_of zm134 (e := (46, 3, .ifCond .eq 50, [48])) rfl) (decide_eq_true hc11)) ?_
              exact dt134_48 hd ih hl hk_b0 h
            · rw [if_neg hc11] at h
              refine Q.map (A.zF (gI_of zm134 (e := (46, 3, .ifCond .eq 50, [48])) rfl) (fun q => hc11 (of_decide_eq_true q))) ?_
              exact dt134_25 hd ih hl hk_b0 h
          · rw [if_neg hc10] at h
            refine Q.map (A.bT (gI_of zm134 (e := (42, 3, .if_icmp .ne 54, [48])) rfl) (decide_eq_true hc10)) ?_
            exact dt134_48 hd ih hl hk_b0 h
def dm134 (b0 : Nat) (x1 : Int32) (x2 : Int32) (x3 : Int32) (x4 : Int32) (x5 : Int32) (s : aS) : Option (Int32 × aS) :=
  dm134_4 5000 b0 x1 x2 x3 x4 x5 0 0 s
set_option maxRecDepth 100000 in
theorem dt134 {sio : Bool} {tt : Nat} {cc : Nat → Nat → Int32} {d : Nat} (hd : 2 ≤ d) {b0 : Nat} {x1 : Int32} {x2 : Int32} {x3 : Int32} {x4 : Int32} {x5 : Int32} {s : aS} (hl : Ly tt cc s) (hk_b0 : aK s b0 3) {o : Int32 × aS} (h : dm134  b0 x1 x2 x3 x4 x5 s = some o) : Q 1 sio tt cc d 134 0 [some (.ref b0), some (.int x1), some (.int x2), some (.int x3), some (.int x4), some (.int x5), none, none, none, none] [] s (.inl (some (.int o.1)), o.2) := by
  unfold dm134 at h
  obtain ⟨d, rfl⟩ : ∃ e, d = e + 1 := ⟨d - 1, by omega⟩
  refine Q.run zm134 4 (i' := 4) (ls' := [some (.ref b0), some (.int x1), some (.int x2), some (.int x3), some (.int x4), some (.int x5), some (.int 0), some (.int 0), none, none]) (st' := []) rfl ?_
  exact dt134_4 hd _ hl hk_b0 h
/-! 133 FormulaTrees.shift(IZII)I -/
set_option maxRecDepth 100000 in
theorem zm133 : zP[133]? = some zM133 := rfl
def dm133_56 (k29 : Int32 → Int32 → Int32 → Int32 → Int32 → Int32 → aS → Option (xZ × aS)) (x1 : Int32) (x2 : Int32) (x3 : Int32) (x4 : Int32) (x5 : Int32) (x6 : Int32) (s : aS) : Option (xZ × aS) :=
  k29 x1 x2 x3 x4 x5 (x6 + 1) s
set_option maxRecDepth 100000 in
theorem dt133_56 {sio : Bool} {tt : Nat} {cc : Nat → Nat → Int32} {d : Nat} (hd : 9 ≤ d) {k29 : Int32 → Int32 → Int32 → Int32 → Int32 → Int32 → aS → Option (xZ × aS)} (hk29 : ∀ {x1 : Int32} {x2 : Int32} {x3 : Int32} {x4 : Int32} {x5 : Int32} {x6 : Int32} {g7 : Option Value} {s : aS}, Ly tt cc s → ∀ {o : xZ × aS}, k29 x1 x2 x3 x4 x5 x6 s = some o → Q 1 sio tt cc d 133 29 [some (.ref 78), some (.int x1), some (.int x2), some (.int x3), some (.int x4), some (.int x5), some (.int x6), g7] [] s o) {x1 : Int32} {x2 : Int32} {x3 : Int32} {x4 : Int32} {x5 : Int32} {x6 : Int32} {g7 : Option Value} {s : aS} (hl : Ly tt cc s) {o : xZ × aS} (h : dm133_56 k29 x1 x2 x3 x4 x5 x6 s = some o) : Q 1 sio tt cc d 133 56 [some (.ref 78), some (.int x1), some (.int x2), some (.int x3), some (.int x4), some (.int x5), some (.int x6), g7] [] s o := by
  unfold dm133_56 at h
  obtain ⟨d, rfl⟩ : ∃ e, d = e + 1 := ⟨d - 1, by omega⟩
  refine Q.run zm133 2 (i' := 29) (ls' := [some (.ref 78), some (.int x1), some (.int x2), some (.int x3), some (.int x4), some (.int x5), some (.int (x6 + 1)), g7]) (st' := []) rfl ?_
  exact hk29 hl  h
def dm133_20 (s : aS) : Option (xZ × aS) :=
  some (.inr 0, nw s 80 0)
set_option maxRecDepth 100000 in
theorem dt133_20 {sio : Bool} {tt : Nat} {cc : Nat → Nat → Int32} {d : Nat} (hd : 9 ≤ d) {x1 : Int32} {x2 : Int32} {x3 : Int32} {x4 : Int32} {s : aS} (hl : Ly tt cc s) {o : xZ × aS} (h : dm133_20  s = some o) : Q 1 sio tt cc d 133 20 [some (.ref 78), some (.int x1), some (.int x2), some (.int x3), some (.int x4), none, none, none] [] s o := by
  unfold dm133_20 at h
  obtain ⟨d, rfl⟩ : ∃ e, d = e + 1 := ⟨d - 1, by omega⟩
  cases h
  exact Q.t zm133 (show zM133.2.2.2.2.2[20]? = some (42, 3, .new 58, [200]) from rfl) rfl rfl hl.gL (by omega) hl
def dm133_50 (k29 : Int32 → Int32 → Int32 → Int32 → Int32 → Int32 → aS → Option (xZ × aS)) (x1 : Int32) (x2 : Int32) (x3 : Int32) (x4 : Int32) (x6 : Int32) (y0 : Int32) (c1 : Nat) (y2 : Int32) (y3 : Int32) (s : aS) : Option (xZ × aS) :=
  bv (dm134 c1 y2 y3 x2 x3 x4 s) fun r4 s3 =>
  dm133_56 k29 x1 x2 x3 x4 (y0 + r4) x6 s3
set_option maxRecDepth 100000 in
theorem dt133_50 {sio : Bool} {tt : Nat} {cc : Nat → Nat → Int32} {d : Nat} (hd : 9 ≤ d) {k29 : Int32 → Int32 → Int32 → Int32 → Int32 → Int32 → aS → Option (xZ × aS)} (hk29 : ∀ {x1 : Int32} {x2 : Int32} {x3 : Int32} {x4 : Int32} {x5 : Int32} {x6 : Int32} {g7 : Option Value} {s : aS}, Ly tt cc s → ∀ {o : xZ × aS}, k29 x1 x2 x3 x4 x5 x6 s = some o → Q 1 sio tt cc d 133 29 [some (.ref 78), some (.int x1), some (.int x2), some (.int x3), some (.int x4), some (.int x5), some (.int x6), g7] [] s o) {x1 : Int32} {x2 : Int32} {x3 : Int32} {x4 : Int32} {x6 : Int32} {y0 : Int32} {c1 : Nat} {y2 : Int32} {y3 : Int32} {x5 : Int32} {b7 : Nat} {s : aS} (hl : Ly tt cc s) (hk_c1 : aK s c1 3) {o : xZ × aS} (h : dm133_50 k29 x1 x2 x3 x4 x6 y0 c1 y2 y3 s = some o) : Q 1 sio tt cc d 133 50 [some (.ref 78), some (.int x1), some (.int x2), some (.int x3), some (.int x4), some (.int x5), some (.int x6), some (.ref b7)] [.int y3, .int y2, .ref c1, .int y0] s o := by
  unfold dm133_50 at h
  obtain ⟨d, rfl⟩ : ∃ e, d = e + 1 := ⟨d - 1, by omega⟩
  refine Q.run zm133 3 (i' := 53) (ls' := [some (.ref 78), some (.int x1), some (.int x2), some (.int x3), some (.int x4), some (.int x5), some (.int x6), some (.ref b7)]) (st' := [.int x4, .int x3, .int x2, .int y3, .int y2, .ref c1, .int y0]) rfl ?_
  obtain ⟨r4, s3, hc2, h⟩ := bv_so h
  have hq1 : Q 1 sio tt cc d 134 0 [some (.ref c1), some (.int y2), some (.int y3), some (.int x2), some (.int x3), some (.int x4), none, none, none, none] [] s (.inl (some (.int r4)), s3) := dt134 (by omega) hl hk_c1 hc2
  refine Q.callI (gC_vi zm133 (show zM133.2.2.2.2.2[53]? = some (103, 3, .invokevirtual 153, [0, 134, 5, 3]) from rfl) zm134 hk_c1.1 (hl.tr hk_c1).1 rfl (show aCr 5 c1 [.int x4, .int x3, .int x2, .int y3, .int y2, .ref c1, .int y0] 10 = some ([some (.ref c1), some (.int y2), some (.int y3), some (.int x2), some (.int x3), some (.int x4), none, none, none, none], [.int y0]) from rfl)) hq1 ?_
  have hr5 : aK s3 c1 3 := hq1.2.1.k hk_c1
  refine Q.run zm133 2 (i' := 56) (ls' := [some (.ref 78), some (.int x1), some (.int x2), some (.int x3), some (.int x4), some (.int (y0 + r4)), some (.int x6), some (.ref b7)]) (st' := []) rfl ?_
  exact dt133_56 hd hk29 hq1.1  h
def dm133_29 : Nat → Int32 → Int32 → Int32 → Int32 → Int32 → Int32 → aS → Option (xZ × aS)
  | 0, _, _, _, _, _, _, _ => none
  | n + 1, x1, x2, x3, x4, x5, x6, s =>
    if 8 ≤ x6 then
      some (.inl (some (.int x5)), s)
    else
      bu (dm54 x6 s) fun r4 =>
      vN r4 (
        dm133_56 (dm133_29 n) x1 x2 x3 x4 x5 x6 s
      ) fun b6 =>
        if aK s b6 3 then
          if aB x6 8 then
            if (sI s 101 (jN x6)) = x1 then
              dm133_50 (dm133_29 n) x1 x2 x3 x4 x6 x5 b6 x1 1 s
            else
              dm133_50 (dm133_29 n) x1 x2 x3 x4 x6 x5 b6 x1 0 s
          else none
        else none
set_option maxRecDepth 100000 in
theorem dt133_29 {sio : Bool} {tt : Nat} {cc : Nat → Nat → Int32} {d : Nat} (hd : 9 ≤ d) : ∀ (n : Nat) {x1 : Int32} {x2 : Int32} {x3 : Int32} {x4 : Int32} {x5 : Int32} {x6 : Int32} {g7 : Option Value} {s : aS} (_ : Ly tt cc s) {o : xZ × aS} (_ : dm133_29  n x1 x2 x3 x4 x5 x6 s = some o), Q 1 sio tt cc d 133 29 [some (.ref 78), some (.int x1), some (.int x2), some (.int x3), some (.int x4), some (.int x5), some (.int x6), g7] [] s o := by
  obtain ⟨d, rfl⟩ : ∃ e, d = e + 1 := ⟨d - 1, by omega⟩
  intro n
  induction n with
  | zero => intro x1 x2 x3 x4 x5 x6 g7 s hl o h; rw [dm133_29] at h; cases h
  | succ n ih =>
    intro x1 x2 x3 x4 x5 x6 g7 s hl o h
    rw [dm133_29] at h
    refine Q.run zm133 2 (i' := 31) (ls' := [some (.ref 78), some (.int x1), some (.int x2), some (.int x3), some (.int x4), some (.int x5), some (.int x6), g7]) (st' := [.int 8, .int x6]) rfl ?_
    by_cases hc1 : 8 ≤ x6
    · rw [if_pos hc1] at h
      refine Q.map (A.bT (gI_of zm133 (e := (62, 3, .if_icmp .ge 53, [58])) rfl) (decide_eq_true hc1)) ?_
      refine Q.run zm133 1 (i' := 59) (ls' := [some (.ref 78), some (.int x1), some (.int x2), some (.int x3), some (.int x4), some (.int x5), some (.int x6), g7]) (st' := [.int x5]) rfl ?_
      cases h
      exact Q.ret (A.ri zm133 (show zM133.2.2.2.2.2[59]? = some (117, 1, .ireturn, []) from rfl) rfl rfl) hl
    · rw [if_neg hc1] at h
      refine Q.map (A.bF (gI_of zm133 (e := (62, 3, .if_icmp .ge 53, [58])) rfl) (fun q => hc1 (of_decide_eq_true q))) ?_
      refine Q.run zm133 2 (i' := 34) (ls' := [some (.ref 78), some (.int x1), some (.int x2), some (.int x3), some (.int x4), some (.int x5), some (.int x6), g7]) (st' := [.int x6, .ref 78]) rfl ?_
      obtain ⟨r4, hc3, h⟩ := bu_so h
      have hq2 : Q 1 sio tt cc d 54 0 [some (.ref 78), some (.int x6)] [] s (.inl (some r4), s) := dt54 (by omega) hl  hc3
      rcases vN_so h with ⟨hv5, h9⟩ | ⟨b6, hv5, h9⟩
      · clear h
        subst hv5
        have h := h9
        refine Q.callR (gC_vi zm133 (show zM133.2.2.2.2.2[34]? = some (68, 3, .invokevirtual 114, [0, 54, 1, 0]) from rfl) zm54 (hl.lt (a := 78) (by decide)) (hl.T (a := 78) (p := (0, 7)) 0 rfl rfl) rfl (show aCr 1 78 [.int x6, .ref 78] 2 = some ([some (.ref 78), some (.int x6)], []) from rfl)) hq2 ?_
        refine Q.run zm133 3 (i' := 56) (ls' := [some (.ref 78), some (.int x1), some (.int x2), some (.int x3), some (.int x4), some (.int x5), some (.int x6), some (.null)]) (st' := []) rfl ?_
        exact dt133_56 hd ih hl  h
      · clear h
        subst hv5
        have h := h9
        obtain ⟨hr7, h⟩ := ite_so h
        refine Q.callR (gC_vi zm133 (show zM133.2.2.2.2.2[34]? = some (68, 3, .invokevirtual 114, [0, 54, 1, 0]) from rfl) zm54 (hl.lt (a := 78) (by decide)) (hl.T (a := 78) (p := (0, 7)) 0 rfl rfl) rfl (show aCr 1 78 [.int x6, .ref 78] 2 = some ([some (.ref 78), some (.int x6)], []) from rfl)) hq2 ?_
        refine Q.run zm133 7 (i' := 42) (ls' := [some (.ref 78), some (.int x1), some (.int x2), some (.int x3), some (.int x4), some (.int x5), some (.int x6), some (.ref b6)]) (st' := [.ref 78, .int x1, .ref b6, .int x5]) rfl ?_
        refine Q.map (A.gf (gI_of zm133 (e := (84, 3, .getfield 31, [0, 3])) rfl) (hl.lt (a := 78) (by decide)) (hl.T (a := 78) (p := (0, 7)) 0 rfl rfl) (by decide) (hl.R 3 rfl)) ?_
        refine Q.run zm133 1 (i' := 44) (ls' := [some (.ref 78), some (.int x1), some (.int x2), some (.int x3), some (.int x4), some (.int x5), some (.int x6), some (.ref b6)]) (st' := [.int x6, .ref 101, .int x1, .ref b6, .int x5]) rfl ?_
        obtain ⟨hc8, h⟩ := ite_so h
        refine Q.map (A.ia (gI_of zm133 (e := (89, 1, .iaload, [])) rfl) (hl.lt (a := 101) (by decide)) (hl.T (a := 101) (p := (100, 8)) 23 rfl rfl) hc8) ?_
        refine Q.run zm133 1 (i' := 46) (ls' := [some (.ref 78), some (.int x1), some (.int x2), some (.int x3), some (.int x4), some (.int x5), some (.int x6), some (.ref b6)]) (st' := [.int x1, .int (sI s 101 (jN x6)), .int x1, .ref b6, .int x5]) rfl ?_
        by_cases hc9 : (sI s 101 (jN x6)) = x1
        · rw [if_pos hc9] at h
          refine Q.map (A.bF (gI_of zm133 (e := (91, 3, .if_icmp .ne 7, [49])) rfl) (fun q => of_decide_eq_true q hc9)) ?_
          refine Q.run zm133 2 (i' := 50) (ls' := [some (.ref 78), some (.int x1), some (.int x2), some (.int x3), some (.int x4), some (.int x5), some (.int x6), some (.ref b6)]) (st' := [.int 1, .int x1, .ref b6, .int x5]) rfl ?_
          exact dt133_50 hd ih hl hr7 h
        · rw [if_neg hc9] at h
          refine Q.map (A.bT (gI_of zm133 (e := (91, 3, .if_icmp .ne 7, [49])) rfl) (decide_eq_true hc9)) ?_
          refine Q.run zm133 1 (i' := 50) (ls' := [some (.ref 78), some (.int x1), some (.int x2), some (.int x3), some (.int x4), some (.int x5), some (.int x6), some (.ref b6)]) (st' := [.int 0, .int x1, .ref b6, .int x5]) rfl ?_
          exact dt133_50 hd ih hl hr7 h
def dm133 (x1 : Int32) (x2 : Int32) (x3 : Int32) (x4 : Int32) (s : aS) : Option (xZ × aS) :=
  bu (dm40 x1 s) fun r3 =>
  if r3 = 0 then
    some (.inr 2, nw s 82 0)
  else
    if x3 < 1 then
      dm133_20 s
    else
      bu (dm132 x2) fun r8 =>
      if r8 < x3 then
        dm133_20 s
      else
        bu (dm126 x4) fun r12 =>
        if r12 = 0 then
          dm133_20 s
        else
          dm133_29 5000 x1 x2 x3 x4 0 0 s
set_option maxRecDepth 100000 in
theorem dt133 {sio : Bool} {tt : Nat} {cc : Nat → Nat → Int32} {d : Nat} (hd : 9 ≤ d) {x1 : Int32} {x2 : Int32} {x3 : Int32} {x4 : Int32} {s : aS} (hl : Ly tt cc s) {o : xZ × aS} (h : dm133  x1 x2 x3 x4 s = some o) : Q 1 sio tt cc d 133 0 [some (.ref 78), some (.int x1), some (.int x2), some (.int x3), some (.int x4), none, none, none] [] s o := by
  unfold dm133 at h
  obtain ⟨d, rfl⟩ : ∃ e, d = e + 1 := ⟨d - 1, by omega⟩
  refine Q.run zm133 1 (i' := 1) (ls' := [some (.ref 78), some (.int x1), some (.int x2), some (.int x3), some (.int x4), none, none, none]) (st' := [.ref 78]) rfl ?_
  refine Q.map (A.gf (gI_of zm133 (e := (1, 3, .getfield 21, [0, 1])) rfl) (hl.lt (a := 78) (by decide)) (hl.T (a := 78) (p := (0, 7)) 0 rfl rfl) (by decide) (hl.R 1 rfl)) ?_
  refine Q.run zm133 1 (i' := 3) (ls' := [some (.ref 78), some (.int x1), some (.int x2), some (.int x3), some (.int x4), none, none, none]) (st' := [.int x1, .ref 81]) rfl ?_
  obtain ⟨r3, hc2, h⟩ := bu_so h
  have hq1 : Q 1 sio tt cc d 40 0 [some (.ref 81), some (.int x1)] [] s (.inl (some (.int r3)), s) := dt40 (by omega) hl  hc2
  refine Q.callI (gC_vi zm133 (show zM133.2.2.2.2.2[3]? = some (5, 3, .invokevirtual 96, [0, 40, 1, 2]) from rfl) zm40 (hl.lt (a := 81) (by decide)) (hl.T (a := 81) (p := (2, 3)) 3 rfl rfl) rfl (show aCr 1 81 [.int x1, .ref 81] 2 = some ([some (.ref 81), some (.int x1)], []) from rfl)) hq1 ?_
  by_cases hc4 : r3 = 0
  · rw [if_pos hc4] at h
    refine Q.map (A.zF (gI_of zm133 (e := (8, 3, .ifCond .ne 13, [10])) rfl) (fun q => of_decide_eq_true q hc4)) ?_
    cases h
    exact Q.t zm133 (show zM133.2.2.2.2.2[5]? = some (11, 3, .new 100, [202]) from rfl) rfl rfl hl.gL (by omega) hl
  · rw [if_neg hc4] at h
    refine Q.map (A.zT (gI_of zm133 (e := (8, 3, .ifCond .ne 13, [10])) rfl) (decide_eq_true hc4)) ?_
    refine Q.run zm133 2 (i' := 12) (ls' := [some (.ref 78), some (.int x1), some (.int x2), some (.int x3), some (.int x4), none, none, none]) (st' := [.int 1, .int x3]) rfl ?_
    by_cases hc5 : x3 < 1
    · rw [if_pos hc5] at h
      refine Q.map (A.bT (gI_of zm133 (e := (23, 3, .if_icmp .lt 19, [20])) rfl) (decide_eq_true hc5)) ?_
      exact dt133_20 hd hl  h
    · rw [if_neg hc5] at h
      refine Q.map (A.bF (gI_of zm133 (e := (23, 3, .if_icmp .lt 19, [20])) rfl) (fun q => hc5 (of_decide_eq_true q))) ?_
      refine Q.run zm133 2 (i' := 15) (ls' := [some (.ref 78), some (.int x1), some (.int x2), some (.int x3), some (.int x4), none, none, none]) (st' := [.int x2, .int x3]) rfl ?_
      obtain ⟨r8, hc7, h⟩ := bu_so h
      have hq6 : Q 1 sio tt cc d 132 0 [some (.int x2)] [] s (.inl (some (.int r8)), s) := dt132 (by omega) hl  hc7
      refine Q.callI (gC_st zm133 (show zM133.2.2.2.2.2[15]? = some (28, 3, .invokestatic 147, [0, 132, 1]) from rfl) zm132 (show aC 1 [.int x2, .int x3] 1 = some ([some (.int x2)], [.int x3]) from rfl)) hq6 ?_
      by_cases hc9 : r8 < x3
      · rw [if_pos hc9] at h
        refine Q.map (A.bT (gI_of zm133 (e := (31, 3, .if_icmp .gt 11, [20])) rfl) (decide_eq_true hc9)) ?_
        exact dt133_20 hd hl  h
      · rw [if_neg hc9] at h
        refine Q.map (A.bF (gI_of zm133 (e := (31, 3, .if_icmp .gt 11, [20])) rfl) (fun q => hc9 (of_decide_eq_true q))) ?_
        refine Q.run zm133 1 (i' := 18) (ls' := [some (.ref 78), some (.int x1), some (.int x2), some (.int x3), some (.int x4), none, none, none]) (st' := [.int x4]) rfl ?_
        obtain ⟨r12, hc11, h⟩ := bu_so h
        have hq10 : Q 1 sio tt cc d 126 0 [some (.int x4)] [] s (.inl (some (.int r12)), s) := dt126 (by omega) hl  hc11
        refine Q.callI (gC_st zm133 (show zM133.2.2.2.2.2[18]? = some (36, 3, .invokestatic 134, [0, 126, 1]) from rfl) zm126 (show aC 1 [.int x4] 1 = some ([some (.int x4)], []) from rfl)) hq10 ?_
        by_cases hc13 : r12 = 0
        · rw [if_pos hc13] at h
          refine Q.map (A.zF (gI_of zm133 (e := (39, 3, .ifCond .ne 13, [25])) rfl) (fun q => of_decide_eq_true q hc13)) ?_
          exact dt133_20 hd hl  h
        · rw [if_neg hc13] at h
          refine Q.map (A.zT (gI_of zm133 (e := (39, 3, .ifCond .ne 13, [25])) rfl) (decide_eq_true hc13)) ?_
          refine Q.run zm133 4 (i' := 29) (ls' := [some (.ref 78), some (.int x1), some (.int x2), some (.int x3), some (.int x4), some (.int 0), some (.int 0), none]) (st' := []) rfl ?_
          exact dt133_29 hd _ hl  h
end
section
/-! 7 FormulaTreesLaw.shift(LFormulaTrees;IZII[J)I -/
set_option maxRecDepth 100000 in
theorem zm7 : zP[7]? = some zM7 := rfl
def dm7 (x1 : Int32) (x2 : Int32) (x3 : Int32) (x4 : Int32) (s : aS) : Option (Int32 × aS) :=
  bv (dm133 x1 x2 x3 x4 s) fun z4 s3 =>
  zN z4 (fun v5 =>
    vI v5 fun r7 =>
    if aB 0 1 then
      nx (wJ s3 148 (jN 0) r7.toInt64) fun s10 =>
      some (0, s10)
    else none
  ) fun e6 =>
    if e6 = 2 then
      some (1, s3)
    else
      if e6 = 0 then
        some (2, s3)
      else
        none
set_option maxRecDepth 100000 in
theorem dt7 {sio : Bool} {tt : Nat} {cc : Nat → Nat → Int32} {d : Nat} (hd : 10 ≤ d) {x1 : Int32} {x2 : Int32} {x3 : Int32} {x4 : Int32} {s : aS} (hl : Ly tt cc s) {o : Int32 × aS} (h : dm7  x1 x2 x3 x4 s = some o) : Q 1 sio tt cc d 7 0 [some (.ref 78), some (.int x1), some (.int x2), some (.int x3), some (.int x4), some (.ref 148), none] [] s (.inl (some (.int o.1)), o.2) := by
  unfold dm7 at h
  obtain ⟨d, rfl⟩ : ∃ e, d = e + 1 := ⟨d - 1, by omega⟩
  refine Q.run zm7 7 (i' := 7) (ls' := [some (.ref 78), some (.int x1), some (.int x2), some (.int x3), some (.int x4), some (.ref 148), none]) (st' := [.int x4, .int x3, .int x2, .int x1, .ref 78, .int 0, .ref 148]) rfl ?_
  obtain ⟨z4, s3, hc2, h⟩ := bv_so h
  have hq1 : Q 1 sio tt cc d 133 0 [some (.ref 78), some (.int x1), some (.int x2), some (.int x3), some (.int x4), none, none, none] [] s (z4, s3) := dt133 (by omega) hl  hc2
  rcases zN_so h with ⟨v5, hz13, h8⟩ | ⟨e6, hz13, h8⟩
  · clear h
    subst hz13
    have h := h8
    obtain ⟨r7, hv8, h9⟩ := vI_so h
    clear h
    subst hv8
    have h := h9
    refine Q.callI (gC_vi zm7 (show zM7.2.2.2.2.2[7]? = some (9, 3, .invokevirtual 38, [0, 133, 4, 0]) from rfl) zm133 (hl.lt (a := 78) (by decide)) (hl.T (a := 78) (p := (0, 7)) 0 rfl rfl) rfl (show aCr 4 78 [.int x4, .int x3, .int x2, .int x1, .ref 78, .int 0, .ref 148] 8 = some ([some (.ref 78), some (.int x1), some (.int x2), some (.int x3), some (.int x4), none, none, none], [.int 0, .ref 148]) from rfl)) hq1 ?_
    refine Q.run zm7 1 (i' := 9) (ls' := [some (.ref 78), some (.int x1), some (.int x2), some (.int x3), some (.int x4), some (.ref 148), none]) (st' := [.long r7.toInt64, .int 0, .ref 148]) rfl ?_
    obtain ⟨hc9, h⟩ := ite_so h
    obtain ⟨s10, hs11, h⟩ := nx_so h
    refine Q.lS hs11 rfl (gI_of zm7 (e := (13, 1, .lastore, [])) rfl) (hq1.1.lt (a := 148) (by decide)) (by decide) (hq1.1.T (a := 148) (p := (104, 1)) 70 rfl rfl) hc9 ?_
    have hl12 : Ly tt cc s10 := by rw [hs11]; exact hq1.1.wJd
    refine Q.run zm7 2 (i' := 18) (ls' := [some (.ref 78), some (.int x1), some (.int x2), some (.int x3), some (.int x4), some (.ref 148), none]) (st' := [.int 0]) rfl ?_
    cases h
    exact Q.ret (A.ri zm7 (show zM7.2.2.2.2.2[18]? = some (26, 1, .ireturn, []) from rfl) rfl rfl) hl12
  · clear h
    subst hz13
    have h := h8
    by_cases hc14 : e6 = 2
    · rw [if_pos hc14] at h
      subst hc14
      refine Q.hc (gC_vi zm7 (show zM7.2.2.2.2.2[7]? = some (9, 3, .invokevirtual 38, [0, 133, 4, 0]) from rfl) zm133 (hl.lt (a := 78) (by decide)) (hl.T (a := 78) (p := (0, 7)) 0 rfl rfl) rfl (show aCr 4 78 [.int x4, .int x3, .int x2, .int x1, .ref 78, .int 0, .ref 148] 8 = some ([some (.ref 78), some (.int x1), some (.int x2), some (.int x3), some (.int x4), none, none, none], [.int 0, .ref 148]) from rfl)) hq1 (t := 11) rfl ?_
      refine Q.run zm7 2 (i' := 13) (ls' := [some (.ref 78), some (.int x1), some (.int x2), some (.int x3), some (.int x4), some (.ref 148), some (.ref (sL s3 - 1))]) (st' := [.int 1]) rfl ?_
      cases h
      exact Q.ret (A.ri zm7 (show zM7.2.2.2.2.2[13]? = some (20, 1, .ireturn, []) from rfl) rfl rfl) hq1.1
    · rw [if_neg hc14] at h
      by_cases hc15 : e6 = 0
      · rw [if_pos hc15] at h
        subst hc15
        refine Q.hc (gC_vi zm7 (show zM7.2.2.2.2.2[7]? = some (9, 3, .invokevirtual 38, [0, 133, 4, 0]) from rfl) zm133 (hl.lt (a := 78) (by decide)) (hl.T (a := 78) (p := (0, 7)) 0 rfl rfl) rfl (show aCr 4 78 [.int x4, .int x3, .int x2, .int x1, .ref 78, .int 0, .ref 148] 8 = some ([some (.ref 78), some (.int x1), some (.int x2), some (.int x3), some (.int x4), none, none, none], [.int 0, .ref 148]) from rfl)) hq1 (t := 14) rfl ?_
        refine Q.run zm7 2 (i' := 16) (ls' := [some (.ref 78), some (.int x1), some (.int x2), some (.int x3), some (.int x4), some (.ref 148), some (.ref (sL s3 - 1))]) (st' := [.int 2]) rfl ?_
        cases h
        exact Q.ret (A.ri zm7 (show zM7.2.2.2.2.2[16]? = some (24, 1, .ireturn, []) from rfl) rfl rfl) hq1.1
      · rw [if_neg hc15] at h
        cases h
/-! 229 FormulaTreesModel.firstBehind(III)I -/
set_option maxRecDepth 100000 in
theorem zm229 : zP[229]? = some zM229 := rfl
def dm229 (x0 : Int32) (x1 : Int32) (x2 : Int32) : Option (Int32) :=
  if x1 ≤ x0 then
    if x2 < 0 then
      if (x1 - x2) ≤ x0 then
        some (x0 + x2)
      else
        some x1
    else
      some (x0 + x2)
  else
    some x0
set_option maxRecDepth 100000 in
theorem dt229 {sio : Bool} {tt : Nat} {cc : Nat → Nat → Int32} {d : Nat} (hd : 0 ≤ d) {x0 : Int32} {x1 : Int32} {x2 : Int32} {s : aS} (hl : Ly tt cc s) {o : Int32} (h : dm229  x0 x1 x2 = some o) : Q 2 sio tt cc d 229 0 [some (.int x0), some (.int x1), some (.int x2)] [] s (.inl (some (.int o)), s) := by
  unfold dm229 at h
  refine Q.run zm229 2 (i' := 2) (ls' := [some (.int x0), some (.int x1), some (.int x2)]) (st' := [.int x1, .int x0]) rfl ?_
  by_cases hc1 : x1 ≤ x0
  · rw [if_pos hc1] at h
    refine Q.map (A.bT (gI_of zm229 (e := (2, 3, .if_icmp .ge 5, [5])) rfl) (decide_eq_true hc1)) ?_
    refine Q.run zm229 1 (i' := 6) (ls' := [some (.int x0), some (.int x1), some (.int x2)]) (st' := [.int x2]) rfl ?_
    by_cases hc2 : x2 < 0
    · rw [if_pos hc2] at h
      refine Q.map (A.zT (gI_of zm229 (e := (8, 3, .ifCond .lt 7, [11])) rfl) (decide_eq_true hc2)) ?_
      refine Q.run zm229 4 (i' := 15) (ls' := [some (.int x0), some (.int x1), some (.int x2)]) (st' := [.int (x1 - x2), .int x0]) rfl ?_
      by_cases hc3 : (x1 - x2) ≤ x0
      · rw [if_pos hc3] at h
        refine Q.map (A.bT (gI_of zm229 (e := (19, 3, .if_icmp .ge 7, [18])) rfl) (decide_eq_true hc3)) ?_
        refine Q.run zm229 3 (i' := 21) (ls' := [some (.int x0), some (.int x1), some (.int x2)]) (st' := [.int (x0 + x2)]) rfl ?_
        cases h
        exact Q.ret (A.ri zm229 (show zM229.2.2.2.2.2[21]? = some (29, 1, .ireturn, []) from rfl) rfl rfl) hl
      · rw [if_neg hc3] at h
        refine Q.map (A.bF (gI_of zm229 (e := (19, 3, .if_icmp .ge 7, [18])) rfl) (fun q => hc3 (of_decide_eq_true q))) ?_
        refine Q.run zm229 2 (i' := 21) (ls' := [some (.int x0), some (.int x1), some (.int x2)]) (st' := [.int x1]) rfl ?_
        cases h
        exact Q.ret (A.ri zm229 (show zM229.2.2.2.2.2[21]? = some (29, 1, .ireturn, []) from rfl) rfl rfl) hl
    · rw [if_neg hc2] at h
      refine Q.map (A.zF (gI_of zm229 (e := (8, 3, .ifCond .lt 7, [11])) rfl) (fun q => hc2 (of_decide_eq_true q))) ?_
      refine Q.run zm229 3 (i' := 10) (ls' := [some (.int x0), some (.int x1), some (.int x2)]) (st' := [.int (x0 + x2)]) rfl ?_
      cases h
      exact Q.ret (A.ri zm229 (show zM229.2.2.2.2.2[10]? = some (14, 1, .ireturn, []) from rfl) rfl rfl) hl
  · rw [if_neg hc1] at h
    refine Q.map (A.bF (gI_of zm229 (e := (2, 3, .if_icmp .ge 5, [5])) rfl) (fun q => hc1 (of_decide_eq_true q))) ?_
    refine Q.run zm229 1 (i' := 4) (ls' := [some (.int x0), some (.int x1), some (.int x2)]) (st' := [.int x0]) rfl ?_
    cases h
    exact Q.ret (A.ri zm229 (show zM229.2.2.2.2.2[4]? = some (6, 1, .ireturn, []) from rfl) rfl rfl) hl
/-! 230 FormulaTreesModel.lastBehind(IIII)I -/
set_option maxRecDepth 100000 in
theorem zm230 : zP[230]? = some zM230 := rfl
def dm230 (x0 : Int32) (x1 : Int32) (x2 : Int32) (x3 : Int32) : Option (Int32) :=
  if x1 ≤ x0 then
    if 0 ≤ x2 then
      if (x0 + x2) ≤ x3 then
        some (x0 + x2)
      else
        some x3
    else
      if (x1 - x2) ≤ x0 then
        some (x0 + x2)
      else
        some (x1 - 1)
  else
    some x0
set_option maxRecDepth 100000 in
theorem dt230 {sio : Bool} {tt : Nat} {cc : Nat → Nat → Int32} {d : Nat} (hd : 0 ≤ d) {x0 : Int32} {x1 : Int32} {x2 : Int32} {x3 : Int32} {s : aS} (hl : Ly tt cc s) {o : Int32} (h : dm230  x0 x1 x2 x3 = some o) : Q 2 sio tt cc d 230 0 [some (.int x0), some (.int x1), some (.int x2), some (.int x3)] [] s (.inl (some (.int o)), s) := by
  unfold dm230 at h
  refine Q.run zm230 2 (i' := 2) (ls' := [some (.int x0), some (.int x1), some (.int x2), some (.int x3)]) (st' := [.int x1, .int x0]) rfl ?_
  by_cases hc1 : x1 ≤ x0
  · rw [if_pos hc1] at h
    refine Q.map (A.bT (gI_of zm230 (e := (2, 3, .if_icmp .ge 5, [5])) rfl) (decide_eq_true hc1)) ?_
    refine Q.run zm230 1 (i' := 6) (ls' := [some (.int x0), some (.int x1), some (.int x2), some (.int x3)]) (st' := [.int x2]) rfl ?_
    by_cases hc2 : 0 ≤ x2
    · rw [if_pos hc2] at h
      refine Q.map (A.zT (gI_of zm230 (e := (8, 3, .ifCond .ge 20, [20])) rfl) (decide_eq_true hc2)) ?_
      refine Q.run zm230 4 (i' := 24) (ls' := [some (.int x0), some (.int x1), some (.int x2), some (.int x3)]) (st' := [.int x3, .int (x0 + x2)]) rfl ?_
      by_cases hc3 : (x0 + x2) ≤ x3
      · rw [if_pos hc3] at h
        refine Q.map (A.bT (gI_of zm230 (e := (32, 3, .if_icmp .le 7, [27])) rfl) (decide_eq_true hc3)) ?_
        refine Q.run zm230 3 (i' := 30) (ls' := [some (.int x0), some (.int x1), some (.int x2), some (.int x3)]) (st' := [.int (x0 + x2)]) rfl ?_
        cases h
        exact Q.ret (A.ri zm230 (show zM230.2.2.2.2.2[30]? = some (42, 1, .ireturn, []) from rfl) rfl rfl) hl
      · rw [if_neg hc3] at h
        refine Q.map (A.bF (gI_of zm230 (e := (32, 3, .if_icmp .le 7, [27])) rfl) (fun q => hc3 (of_decide_eq_true q))) ?_
        refine Q.run zm230 2 (i' := 30) (ls' := [some (.int x0), some (.int x1), some (.int x2), some (.int x3)]) (st' := [.int x3]) rfl ?_
        cases h
        exact Q.ret (A.ri zm230 (show zM230.2.2.2.2.2[30]? = some (42, 1, .ireturn, []) from rfl) rfl rfl) hl
    · rw [if_neg hc2] at h
      refine Q.map (A.zF (gI_of zm230 (e := (8, 3, .ifCond .ge 20, [20])) rfl) (fun q => hc2 (of_decide_eq_true q))) ?_
      refine Q.run zm230 4 (i' := 11) (ls' := [some (.int x0), some (.int x1), some (.int x2), some (.int x3)]) (st' := [.int (x1 - x2), .int x0]) rfl ?_
      by_cases hc4 : (x1 - x2) ≤ x0
      · rw [if_pos hc4] at h
        refine Q.map (A.bT (gI_of zm230 (e := (15, 3, .if_icmp .ge 9, [16])) rfl) (decide_eq_true hc4)) ?_
        refine Q.run zm230 3 (i' := 19) (ls' := [some (.int x0), some (.int x1), some (.int x2), some (.int x3)]) (st' := [.int (x0 + x2)]) rfl ?_
        cases h
        exact Q.ret (A.ri zm230 (show zM230.2.2.2.2.2[19]? = some (27, 1, .ireturn, []) from rfl) rfl rfl) hl
      · rw [if_neg hc4] at h
        refine Q.map (A.bF (gI_of zm230 (e := (15, 3, .if_icmp .ge 9, [16])) rfl) (fun q => hc4 (of_decide_eq_true q))) ?_
        refine Q.run zm230 4 (i' := 19) (ls' := [some (.int x0), some (.int x1), some (.int x2), some (.int x3)]) (st' := [.int (x1 - 1)]) rfl ?_
        cases h
        exact Q.ret (A.ri zm230 (show zM230.2.2.2.2.2[19]? = some (27, 1, .ireturn, []) from rfl) rfl rfl) hl
  · rw [if_neg hc1] at h
    refine Q.map (A.bF (gI_of zm230 (e := (2, 3, .if_icmp .ge 5, [5])) rfl) (fun q => hc1 (of_decide_eq_true q))) ?_
    refine Q.run zm230 1 (i' := 4) (ls' := [some (.int x0), some (.int x1), some (.int x2), some (.int x3)]) (st' := [.int x0]) rfl ?_
    cases h
    exact Q.ret (A.ri zm230 (show zM230.2.2.2.2.2[4]? = some (6, 1, .ireturn, []) from rfl) rfl rfl) hl
/-! 228 FormulaTreesModel.shift(IZII)I -/
set_option maxRecDepth 100000 in
theorem zm228 : zP[228]? = some zM228 := rfl
def dm228_165 (k36 : Int32 → Int32 → Int32 → Int32 → Int32 → Int32 → Int32 → aS → Option (Int32 × aS)) (x1 : Int32) (x2 : Int32) (x3 : Int32) (x4 : Int32) (x5 : Int32) (x6 : Int32) (x7 : Int32) (s : aS) : Option (Int32 × aS) :=
  k36 x1 x2 x3 x4 x5 x6 (x7 + 1) s
set_option maxRecDepth 100000 in
theorem dt228_165 {sio : Bool} {tt : Nat} {cc : Nat → Nat → Int32} {d : Nat} (hd : 1 ≤ d) {k36 : Int32 → Int32 → Int32 → Int32 → Int32 → Int32 → Int32 → aS → Option (Int32 × aS)} (hk36 : ∀ {x1 : Int32} {x2 : Int32} {x3 : Int32} {x4 : Int32} {x5 : Int32} {x6 : Int32} {x7 : Int32} {g8 : Option Value} {g9 : Option Value} {g10 : Option Value} {g11 : Option Value} {g12 : Option Value} {s : aS}, Ly tt cc s → ∀ {o : Int32 × aS}, k36 x1 x2 x3 x4 x5 x6 x7 s = some o → Q 2 sio tt cc d 228 36 [some (.ref 121), some (.int x1), some (.int x2), some (.int x3), some (.int x4), some (.int x5), some (.int x6), some (.int x7), g8, g9, g10, g11, g12] [] s (.inl (some (.int o.1)), o.2)) {x1 : Int32} {x2 : Int32} {x3 : Int32} {x4 : Int32} {x5 : Int32} {x6 : Int32} {x7 : Int32} {x8 : Int32} {g9 : Option Value} {g10 : Option Value} {g11 : Option Value} {g12 : Option Value} {s : aS} (hl : Ly tt cc s) {o : Int32 × aS} (h : dm228_165 k36 x1 x2 x3 x4 x5 x6 x7 s = some o) : Q 2 sio tt cc d 228 165 [some (.ref 121), some (.int x1), some (.int x2), some (.int x3), some (.int x4), some (.int x5), some (.int x6), some (.int x7), some (.int x8), g9, g10, g11, g12] [] s (.inl (some (.int o.1)), o.2) := by
  unfold dm228_165 at h
  obtain ⟨d, rfl⟩ : ∃ e, d = e + 1 := ⟨d - 1, by omega⟩
  refine Q.run zm228 2 (i' := 36) (ls' := [some (.ref 121), some (.int x1), some (.int x2), some (.int x3), some (.int x4), some (.int x5), some (.int x6), some (.int (x7 + 1)), some (.int x8), g9, g10, g11, g12]) (st' := []) rfl ?_
  exact hk36 hl  h
def dm228_163 (k36 : Int32 → Int32 → Int32 → Int32 → Int32 → Int32 → Int32 → aS → Option (Int32 × aS)) (k43 : Int32 → Int32 → Int32 → Int32 → Int32 → Int32 → Int32 → Int32 → aS → Option (Int32 × aS)) (x1 : Int32) (x2 : Int32) (x3 : Int32) (x4 : Int32) (x5 : Int32) (x6 : Int32) (x7 : Int32) (x8 : Int32) (s : aS) : Option (Int32 × aS) :=
  k43 x1 x2 x3 x4 x5 x6 x7 (x8 + 1) s
set_option maxRecDepth 100000 in
theorem dt228_163 {sio : Bool} {tt : Nat} {cc : Nat → Nat → Int32} {d : Nat} (hd : 1 ≤ d) {k36 : Int32 → Int32 → Int32 → Int32 → Int32 → Int32 → Int32 → aS → Option (Int32 × aS)} (hk36 : ∀ {x1 : Int32} {x2 : Int32} {x3 : Int32} {x4 : Int32} {x5 : Int32} {x6 : Int32} {x7 : Int32} {g8 : Option Value} {g9 : Option Value} {g10 : Option Value} {g11 : Option Value} {g12 : Option Value} {s : aS}, Ly tt cc s → ∀ {o : Int32 × aS}, k36 x1 x2 x3 x4 x5 x6 x7 s = some o → Q 2 sio tt cc d 228 36 [some (.ref 121), some (.int x1), some (.int x2), some (.int x3), some (.int x4), some (.int x5), some (.int x6), some (.int x7), g8, g9, g10, g11, g12] [] s (.inl (some (.int o.1)), o.2)) {k43 : Int32 → Int32 → Int32 → Int32 → Int32 → Int32 → Int32 → Int32 → aS → Option (Int32 × aS)} (hk43 : ∀ {x1 : Int32} {x2 : Int32} {x3 : Int32} {x4 : Int32} {x5 : Int32} {x6 : Int32} {x7 : Int32} {x8 : Int32} {g9 : Option Value} {g10 : Option Value} {g11 : Option Value} {g12 : Option Value} {s : aS}, Ly tt cc s → ∀ {o : Int32 × aS}, k43 x1 x2 x3 x4 x5 x6 x7 x8 s = some o → Q 2 sio tt cc d 228 43 [some (.ref 121), some (.int x1), some (.int x2), some (.int x3), some (.int x4), some (.int x5), some (.int x6), some (.int x7), some (.int x8), g9, g10, g11, g12] [] s (.inl (some (.int o.1)), o.2)) {x1 : Int32} {x2 : Int32} {x3 : Int32} {x4 : Int32} {x5 : Int32} {x6 : Int32} {x7 : Int32} {x8 : Int32} {x9 : Int32} {g10 : Option Value} {g11 : Option Value} {g12 : Option Value} {s : aS} (hl : Ly tt cc s) {o : Int32 × aS} (h : dm228_163 k36 k43 x1 x2 x3 x4 x5 x6 x7 x8 s = some o) : Q 2 sio tt cc d 228 163 [some (.ref 121), some (.int x1), some (.int x2), some (.int x3), some (.int x4), some (.int x5), some (.int x6), some (.int x7), some (.int x8), some (.int x9), g10, g11, g12] [] s (.inl (some (.int o.1)), o.2) := by
  unfold dm228_163 at h
  obtain ⟨d, rfl⟩ : ∃ e, d = e + 1 := ⟨d - 1, by omega⟩
  refine Q.run zm228 2 (i' := 43) (ls' := [some (.ref 121), some (.int x1), some (.int x2), some (.int x3), some (.int x4), some (.int x5), some (.int x6), some (.int x7), some (.int (x8 + 1)), some (.int x9), g10, g11, g12]) (st' := []) rfl ?_
  exact hk43 hl  h
def dm228_132 (k36 : Int32 → Int32 → Int32 → Int32 → Int32 → Int32 → Int32 → aS → Option (Int32 × aS)) (k43 : Int32 → Int32 → Int32 → Int32 → Int32 → Int32 → Int32 → Int32 → aS → Option (Int32 × aS)) (x1 : Int32) (x2 : Int32) (x3 : Int32) (x4 : Int32) (x5 : Int32) (x6 : Int32) (x7 : Int32) (x8 : Int32) (x10 : Int32) (x11 : Int32) (y0 : Int32) (s : aS) : Option (Int32 × aS) :=
  if y0 = 0 then
    if x2 = 0 then
      if aB x8 1152 then
        nx (wI s 132 (jN x8) x10) fun s4 =>
        if aB x8 1152 then
          nx (wI s4 134 (jN x8) x11) fun s8 =>
          dm228_163 k36 k43 x1 x2 x3 x4 x5 x6 x7 x8 s8
        else none
      else none
    else
      if aB x8 1152 then
        nx (wI s 131 (jN x8) x10) fun s12 =>
        if aB x8 1152 then
          nx (wI s12 133 (jN x8) x11) fun s16 =>
          dm228_163 k36 k43 x1 x2 x3 x4 x5 x6 x7 x8 s16
        else none
      else none
  else
    bu (dm183 x8 s) fun s21 =>
    dm228_163 k36 k43 x1 x2 x3 x4 x5 (x6 + 1) x7 x8 s21
set_option maxRecDepth 100000 in
theorem dt228_132 {sio : Bool} {tt : Nat} {cc : Nat → Nat → Int32} {d : Nat} (hd : 1 ≤ d) {k36 : Int32 → Int32 → Int32 → Int32 → Int32 → Int32 → Int32 → aS → Option (Int32 × aS)} (hk36 : ∀ {x1 : Int32} {x2 : Int32} {x3 : Int32} {x4 : Int32} {x5 : Int32} {x6 : Int32} {x7 : Int32} {g8 : Option Value} {g9 : Option Value} {g10 : Option Value} {g11 : Option Value} {g12 : Option Value} {s : aS}, Ly tt cc s → ∀ {o : Int32 × aS}, k36 x1 x2 x3 x4 x5 x6 x7 s = some o → Q 2 sio tt cc d 228 36 [some (.ref 121), some (.int x1), some (.int x2), some (.int x3), some (.int x4), some (.int x5), some (.int x6), some (.int x7), g8, g9, g10, g11, g12] [] s (.inl (some (.int o.1)), o.2)) {k43 : Int32 → Int32 → Int32 → Int32 → Int32 → Int32 → Int32 → Int32 → aS → Option (Int32 × aS)} (hk43 : ∀ {x1 : Int32} {x2 : Int32} {x3 : Int32} {x4 : Int32} {x5 : Int32} {x6 : Int32} {x7 : Int32} {x8 : Int32} {g9 : Option Value} {g10 : Option Value} {g11 : Option Value} {g12 : Option Value} {s : aS}, Ly tt cc s → ∀ {o : Int32 × aS}, k43 x1 x2 x3 x4 x5 x6 x7 x8 s = some o → Q 2 sio tt cc d 228 43 [some (.ref 121), some (.int x1), some (.int x2), some (.int x3), some (.int x4), some (.int x5), some (.int x6), some (.int x7), some (.int x8), g9, g10, g11, g12] [] s (.inl (some (.int o.1)), o.2)) {x1 : Int32} {x2 : Int32} {x3 : Int32} {x4 : Int32} {x5 : Int32} {x6 : Int32} {x7 : Int32} {x8 : Int32} {x10 : Int32} {x11 : Int32} {y0 : Int32} {x9 : Int32} {g12 : Option Value} {s : aS} (hl : Ly tt cc s) {o : Int32 × aS} (h : dm228_132 k36 k43 x1 x2 x3 x4 x5 x6 x7 x8 x10 x11 y0 s = some o) : Q 2 sio tt cc d 228 132 [some (.ref 121), some (.int x1), some (.int x2), some (.int x3), some (.int x4), some (.int x5), some (.int x6), some (.int x7), some (.int x8), some (.int x9), some (.int x10), some (.int x11), g12] [.int y0] s (.inl (some (.int o.1)), o.2) := by
  unfold dm228_132 at h
  obtain ⟨d, rfl⟩ : ∃ e, d = e + 1 := ⟨d - 1, by omega⟩
  refine Q.run zm228 2 (i' := 134) (ls' := [some (.ref 121), some (.int x1), some (.int x2), some (.int x3), some (.int x4), some (.int x5), some (.int x6), some (.int x7), some (.int x8), some (.int x9), some (.int x10), some (.int x11), some (.int y0)]) (st' := [.int y0]) rfl ?_
  by_cases hc1 : y0 = 0
  · rw [if_pos hc1] at h
    refine Q.map (A.zT (gI_of zm228 (e := (266, 3, .ifCond .eq 15, [140])) rfl) (decide_eq_true hc1)) ?_
    refine Q.run zm228 1 (i' := 141) (ls' := [some (.ref 121), some (.int x1), some (.int x2), some (.int x3), some (.int x4), some (.int x5), some (.int x6), some (.int x7), some (.int x8), some (.int x9), some (.int x10), some (.int x11), some (.int y0)]) (st' := [.int x2]) rfl ?_
    by_cases hc2 : x2 = 0
    · rw [if_pos hc2] at h
      refine Q.map (A.zT (gI_of zm228 (e := (282, 3, .ifCond .eq 24, [153])) rfl) (decide_eq_true hc2)) ?_
      refine Q.run zm228 1 (i' := 154) (ls' := [some (.ref 121), some (.int x1), some (.int x2), some (.int x3), some (.int x4), some (.int x5), some (.int x6), some (.int x7), some (.int x8), some (.int x9), some (.int x10), some (.int x11), some (.int y0)]) (st' := [.ref 121]) rfl ?_
      refine Q.map (A.gf (gI_of zm228 (e := (307, 3, .getfield 41, [9, 13])) rfl) (hl.lt (a := 121) (by decide)) (hl.T (a := 121) (p := (9, 45)) 43 rfl rfl) (by decide) (hl.R 33 rfl)) ?_
      refine Q.run zm228 2 (i' := 157) (ls' := [some (.ref 121), some (.int x1), some (.int x2), some (.int x3), some (.int x4), some (.int x5), some (.int x6), some (.int x7), some (.int x8), some (.int x9), some (.int x10), some (.int x11), some (.int y0)]) (st' := [.int x10, .int x8, .ref 132]) rfl ?_
      obtain ⟨hc3, h⟩ := ite_so h
      obtain ⟨s4, hs5, h⟩ := nx_so h
      refine Q.is hs5 rfl (gI_of zm228 (e := (314, 1, .iastore, [])) rfl) (hl.lt (a := 132) (by decide)) (by decide) (hl.T (a := 132) (p := (100, 1152)) 54 rfl rfl) hc3 ?_
      have hl6 : Ly tt cc s4 := by rw [hs5]; exact hl.wId (by decide)
      refine Q.run zm228 1 (i' := 159) (ls' := [some (.ref 121), some (.int x1), some (.int x2), some (.int x3), some (.int x4), some (.int x5), some (.int x6), some (.int x7), some (.int x8), some (.int x9), some (.int x10), some (.int x11), some (.int y0)]) (st' := [.ref 121]) rfl ?_
      refine Q.map (A.gf (gI_of zm228 (e := (316, 3, .getfield 47, [9, 15])) rfl) (hl6.lt (a := 121) (by decide)) (hl6.T (a := 121) (p := (9, 45)) 43 rfl rfl) (by decide) (hl6.R 35 rfl)) ?_
      refine Q.run zm228 2 (i' := 162) (ls' := [some (.ref 121), some (.int x1), some (.int x2), some (.int x3), some (.int x4), some (.int x5), some (.int x6), some (.int x7), some (.int x8), some (.int x9), some (.int x10), some (.int x11), some (.int y0)]) (st' := [.int x11, .int x8, .ref 134]) rfl ?_
      obtain ⟨hc7, h⟩ := ite_so h
      obtain ⟨s8, hs9, h⟩ := nx_so h
      refine Q.is hs9 rfl (gI_of zm228 (e := (323, 1, .iastore, [])) rfl) (hl6.lt (a := 134) (by decide)) (by decide) (hl6.T (a := 134) (p := (100, 1152)) 56 rfl rfl) hc7 ?_
      have hl10 : Ly tt cc s8 := by rw [hs9]; exact hl6.wId (by decide)
      exact dt228_163 hd hk36 hk43 hl10  h
    · rw [if_neg hc2] at h
      refine Q.map (A.zF (gI_of zm228 (e := (282, 3, .ifCond .eq 24, [153])) rfl) (fun q => hc2 (of_decide_eq_true q))) ?_
      refine Q.run zm228 1 (i' := 143) (ls' := [some (.ref 121), some (.int x1), some (.int x2), some (.int x3), some (.int x4), some (.int x5), some (.int x6), some (.int x7), some (.int x8), some (.int x9), some (.int x10), some (.int x11), some (.int y0)]) (st' := [.ref 121]) rfl ?_
      refine Q.map (A.gf (gI_of zm228 (e := (286, 3, .getfield 38, [9, 12])) rfl) (hl.lt (a := 121) (by decide)) (hl.T (a := 121) (p := (9, 45)) 43 rfl rfl) (by decide) (hl.R 32 rfl)) ?_
      refine Q.run zm228 2 (i' := 146) (ls' := [some (.ref 121), some (.int x1), some (.int x2), some (.int x3), some (.int x4), some (.int x5), some (.int x6), some (.int x7), some (.int x8), some (.int x9), some (.int x10), some (.int x11), some (.int y0)]) (st' := [.int x10, .int x8, .ref 131]) rfl ?_
      obtain ⟨hc11, h⟩ := ite_so h
      obtain ⟨s12, hs13, h⟩ := nx_so h
      refine Q.is hs13 rfl (gI_of zm228 (e := (293, 1, .iastore, [])) rfl) (hl.lt (a := 131) (by decide)) (by decide) (hl.T (a := 131) (p := (100, 1152)) 53 rfl rfl) hc11 ?_
      have hl14 : Ly tt cc s12 := by rw [hs13]; exact hl.wId (by decide)
      refine Q.run zm228 1 (i' := 148) (ls' := [some (.ref 121), some (.int x1), some (.int x2), some (.int x3), some (.int x4), some (.int x5), some (.int x6), some (.int x7), some (.int x8), some (.int x9), some (.int x10), some (.int x11), some (.int y0)]) (st' := [.ref 121]) rfl ?_
      refine Q.map (A.gf (gI_of zm228 (e := (295, 3, .getfield 44, [9, 14])) rfl) (hl14.lt (a := 121) (by decide)) (hl14.T (a := 121) (p := (9, 45)) 43 rfl rfl) (by decide) (hl14.R 34 rfl)) ?_
      refine Q.run zm228 2 (i' := 151) (ls' := [some (.ref 121), some (.int x1), some (.int x2), some (.int x3), some (.int x4), some (.int x5), some (.int x6), some (.int x7), some (.int x8), some (.int x9), some (.int x10), some (.int x11), some (.int y0)]) (st' := [.int x11, .int x8, .ref 133]) rfl ?_
      obtain ⟨hc15, h⟩ := ite_so h
      obtain ⟨s16, hs17, h⟩ := nx_so h
      refine Q.is hs17 rfl (gI_of zm228 (e := (302, 1, .iastore, [])) rfl) (hl14.lt (a := 133) (by decide)) (by decide) (hl14.T (a := 133) (p := (100, 1152)) 55 rfl rfl) hc15 ?_
      have hl18 : Ly tt cc s16 := by rw [hs17]; exact hl14.wId (by decide)
      refine Q.run zm228 1 (i' := 163) (ls' := [some (.ref 121), some (.int x1), some (.int x2), some (.int x3), some (.int x4), some (.int x5), some (.int x6), some (.int x7), some (.int x8), some (.int x9), some (.int x10), some (.int x11), some (.int y0)]) (st' := []) rfl ?_
      exact dt228_163 hd hk36 hk43 hl18  h
  · rw [if_neg hc1] at h
    refine Q.map (A.zF (gI_of zm228 (e := (266, 3, .ifCond .eq 15, [140])) rfl) (fun q => hc1 (of_decide_eq_true q))) ?_
    refine Q.run zm228 2 (i' := 137) (ls' := [some (.ref 121), some (.int x1), some (.int x2), some (.int x3), some (.int x4), some (.int x5), some (.int x6), some (.int x7), some (.int x8), some (.int x9), some (.int x10), some (.int x11), some (.int y0)]) (st' := [.int x8, .ref 121]) rfl ?_
    obtain ⟨s21, hc20, h⟩ := bu_so h
    have hq19 : Q 2 sio tt cc d 183 0 [some (.ref 121), some (.int x8)] [] s (.inl none, s21) := dt183 (by omega) hl  hc20
    refine Q.callV (gC_vi zm228 (show zM228.2.2.2.2.2[137]? = some (272, 3, .invokevirtual 131, [0, 183, 1, 9]) from rfl) zm183 (hl.lt (a := 121) (by decide)) (hl.T (a := 121) (p := (9, 45)) 43 rfl rfl) rfl (show aCr 1 121 [.int x8, .ref 121] 2 = some ([some (.ref 121), some (.int x8)], []) from rfl)) hq19 ?_
    refine Q.run zm228 2 (i' := 163) (ls' := [some (.ref 121), some (.int x1), some (.int x2), some (.int x3), some (.int x4), some (.int x5), some (.int (x6 + 1)), some (.int x7), some (.int x8), some (.int x9), some (.int x10), some (.int x11), some (.int y0)]) (st' := []) rfl ?_
    exact dt228_163 hd hk36 hk43 hq19.1  h
def dm228_129 (k36 : Int32 → Int32 → Int32 → Int32 → Int32 → Int32 → Int32 → aS → Option (Int32 × aS)) (k43 : Int32 → Int32 → Int32 → Int32 → Int32 → Int32 → Int32 → Int32 → aS → Option (Int32 × aS)) (x1 : Int32) (x2 : Int32) (x3 : Int32) (x4 : Int32) (x5 : Int32) (x6 : Int32) (x7 : Int32) (x8 : Int32) (x10 : Int32) (x11 : Int32) (s : aS) : Option (Int32 × aS) :=
  dm228_132 k36 k43 x1 x2 x3 x4 x5 x6 x7 x8 x10 x11 1 s
set_option maxRecDepth 100000 in
theorem dt228_129 {sio : Bool} {tt : Nat} {cc : Nat → Nat → Int32} {d : Nat} (hd : 1 ≤ d) {k36 : Int32 → Int32 → Int32 → Int32 → Int32 → Int32 → Int32 → aS → Option (Int32 × aS)} (hk36 : ∀ {x1 : Int32} {x2 : Int32} {x3 : Int32} {x4 : Int32} {x5 : Int32} {x6 : Int32} {x7 : Int32} {g8 : Option Value} {g9 : Option Value} {g10 : Option Value} {g11 : Option Value} {g12 : Option Value} {s : aS}, Ly tt cc s → ∀ {o : Int32 × aS}, k36 x1 x2 x3 x4 x5 x6 x7 s = some o → Q 2 sio tt cc d 228 36 [some (.ref 121), some (.int x1), some (.int x2), some (.int x3), some (.int x4), some (.int x5), some (.int x6), some (.int x7), g8, g9, g10, g11, g12] [] s (.inl (some (.int o.1)), o.2)) {k43 : Int32 → Int32 → Int32 → Int32 → Int32 → Int32 → Int32 → Int32 → aS → Option (Int32 × aS)} (hk43 : ∀ {x1 : Int32} {x2 : Int32} {x3 : Int32} {x4 : Int32} {x5 : Int32} {x6 : Int32} {x7 : Int32} {x8 : Int32} {g9 : Option Value} {g10 : Option Value} {g11 : Option Value} {g12 : Option Value} {s : aS}, Ly tt cc s → ∀ {o : Int32 × aS}, k43 x1 x2 x3 x4 x5 x6 x7 x8 s = some o → Q 2 sio tt cc d 228 43 [some (.ref 121), some (.int x1), some (.int x2), some (.int x3), some (.int x4), some (.int x5), some (.int x6), some (.int x7), some (.int x8), g9, g10, g11, g12] [] s (.inl (some (.int o.1)), o.2)) {x1 : Int32} {x2 : Int32} {x3 : Int32} {x4 : Int32} {x5 : Int32} {x6 : Int32} {x7 : Int32} {x8 : Int32} {x10 : Int32} {x11 : Int32} {x9 : Int32} {g12 : Option Value} {s : aS} (hl : Ly tt cc s) {o : Int32 × aS} (h : dm228_129 k36 k43 x1 x2 x3 x4 x5 x6 x7 x8 x10 x11 s = some o) : Q 2 sio tt cc d 228 129 [some (.ref 121), some (.int x1), some (.int x2), some (.int x3), some (.int x4), some (.int x5), some (.int x6), some (.int x7), some (.int x8), some (.int x9), some (.int x10), some (.int x11), g12] [] s (.inl (some (.int o.1)), o.2) := by
  unfold dm228_129 at h
  obtain ⟨d, rfl⟩ : ∃ e, d = e + 1 := ⟨d - 1, by omega⟩
  refine Q.run zm228 2 (i' := 132) (ls' := [some (.ref 121), some (.int x1), some (.int x2), some (.int x3), some (.int x4), some (.int x5), some (.int x6), some (.int x7), some (.int x8), some (.int x9), some (.int x10), some (.int x11), g12]) (st' := [.int 1]) rfl ?_
  exact dt228_132 hd hk36 hk43 hl  h
def dm228_118 (k36 : Int32 → Int32 → Int32 → Int32 → Int32 → Int32 → Int32 → aS → Option (Int32 × aS)) (k43 : Int32 → Int32 → Int32 → Int32 → Int32 → Int32 → Int32 → Int32 → aS → Option (Int32 × aS)) (x1 : Int32) (x2 : Int32) (x3 : Int32) (x4 : Int32) (x5 : Int32) (x6 : Int32) (x7 : Int32) (x8 : Int32) (x10 : Int32) (y0 : Int32) (s : aS) : Option (Int32 × aS) :=
  bu (dm230 y0 x3 x4 x5) fun r3 =>
  if r3 < x10 then
    dm228_129 k36 k43 x1 x2 x3 x4 x5 x6 x7 x8 x10 r3 s
  else
    if x10 ≤ x5 then
      dm228_132 k36 k43 x1 x2 x3 x4 x5 x6 x7 x8 x10 r3 0 s
    else
      dm228_129 k36 k43 x1 x2 x3 x4 x5 x6 x7 x8 x10 r3 s
set_option maxRecDepth 100000 in
theorem dt228_118 {sio : Bool} {tt : Nat} {cc : Nat → Nat → Int32} {d : Nat} (hd : 1 ≤ d) {k36 : Int32 → Int32 → Int32 → Int32 → Int32 → Int32 → Int32 → aS → Option (Int32 × aS)} (hk36 : ∀ {x1 : Int32} {x2 : Int32} {x3 : Int32} {x4 : Int32} {x5 : Int32} {x6 : Int32} {x7 : Int32} {g8 : Option Value} {g9 : Option Value} {g10 : Option Value} {g11 : Option Value} {g12 : Option Value} {s : aS}, Ly tt cc s → ∀ {o : Int32 × aS}, k36 x1 x2 x3 x4 x5 x6 x7 s = some o → Q 2 sio tt cc d 228 36 [some (.ref 121), some (.int x1), some (.int x2), some (.int x3), some (.int x4), some (.int x5), some (.int x6), some (.int x7), g8, g9, g10, g11, g12] [] s (.inl (some (.int o.1)), o.2)) {k43 : Int32 → Int32 → Int32 → Int32 → Int32 → Int32 → Int32 → Int32 → aS → Option (Int32 × aS)} (hk43 : ∀ {x1 : Int32} {x2 : Int32} {x3 : Int32} {x4 : Int32} {x5 : Int32} {x6 : Int32} {x7 : Int32} {x8 : Int32} {g9 : Option Value} {g10 : Option Value} {g11 : Option Value} {g12 : Option Value} {s : aS}, Ly tt cc s → ∀ {o : Int32 × aS}, k43 x1 x2 x3 x4 x5 x6 x7 x8 s = some o → Q 2 sio tt cc d 228 43 [some (.ref 121), some (.int x1), some (.int x2), some (.int x3), some (.int x4), some (.int x5), some (.int x6), some (.int x7), some (.int x8), g9, g10, g11, g12] [] s (.inl (some (.int o.1)), o.2)) {x1 : Int32} {x2 : Int32} {x3 : Int32} {x4 : Int32} {x5 : Int32} {x6 : Int32} {x7 : Int32} {x8 : Int32} {x10 : Int32} {y0 : Int32} {x9 : Int32} {g11 : Option Value} {g12 : Option Value} {s : aS} (hl : Ly tt cc s) {o : Int32 × aS} (h : dm228_118 k36 k43 x1 x2 x3 x4 x5 x6 x7 x8 x10 y0 s = some o) : Q 2 sio tt cc d 228 118 [some (.ref 121), some (.int x1), some (.int x2), some (.int x3), some (.int x4), some (.int x5), some (.int x6), some (.int x7), some (.int x8), some (.int x9), some (.int x10), g11, g12] [.int y0] s (.inl (some (.int o.1)), o.2) := by
  unfold dm228_118 at h
  obtain ⟨d, rfl⟩ : ∃ e, d = e + 1 := ⟨d - 1, by omega⟩
  refine Q.run zm228 3 (i' := 121) (ls' := [some (.ref 121), some (.int x1), some (.int x2), some (.int x3), some (.int x4), some (.int x5), some (.int x6), some (.int x7), some (.int x8), some (.int x9), some (.int x10), g11, g12]) (st' := [.int x5, .int x4, .int x3, .int y0]) rfl ?_
  obtain ⟨r3, hc2, h⟩ := bu_so h
  have hq1 : Q 2 sio tt cc d 230 0 [some (.int y0), some (.int x3), some (.int x4), some (.int x5)] [] s (.inl (some (.int r3)), s) := dt230 (by omega) hl  hc2
  refine Q.callI (gC_st zm228 (show zM228.2.2.2.2.2[121]? = some (238, 3, .invokestatic 324, [0, 230, 4]) from rfl) zm230 (show aC 4 [.int x5, .int x4, .int x3, .int y0] 4 = some ([some (.int y0), some (.int x3), some (.int x4), some (.int x5)], []) from rfl)) hq1 ?_
  refine Q.run zm228 3 (i' := 125) (ls' := [some (.ref 121), some (.int x1), some (.int x2), some (.int x3), some (.int x4), some (.int x5), some (.int x6), some (.int x7), some (.int x8), some (.int x9), some (.int x10), some (.int r3), g12]) (st' := [.int r3, .int x10]) rfl ?_
  by_cases hc4 : r3 < x10
  · rw [if_pos hc4] at h
    refine Q.map (A.bT (gI_of zm228 (e := (247, 3, .if_icmp .gt 10, [129])) rfl) (decide_eq_true hc4)) ?_
    exact dt228_129 hd hk36 hk43 hl  h
  · rw [if_neg hc4] at h
    refine Q.map (A.bF (gI_of zm228 (e := (247, 3, .if_icmp .gt 10, [129])) rfl) (fun q => hc4 (of_decide_eq_true q))) ?_
    refine Q.run zm228 2 (i' := 128) (ls' := [some (.ref 121), some (.int x1), some (.int x2), some (.int x3), some (.int x4), some (.int x5), some (.int x6), some (.int x7), some (.int x8), some (.int x9), some (.int x10), some (.int r3), g12]) (st' := [.int x5, .int x10]) rfl ?_
    by_cases hc5 : x10 ≤ x5
    · rw [if_pos hc5] at h
      refine Q.map (A.bT (gI_of zm228 (e := (254, 3, .if_icmp .le 7, [131])) rfl) (decide_eq_true hc5)) ?_
      refine Q.run zm228 1 (i' := 132) (ls' := [some (.ref 121), some (.int x1), some (.int x2), some (.int x3), some (.int x4), some (.int x5), some (.int x6), some (.int x7), some (.int x8), some (.int x9), some (.int x10), some (.int r3), g12]) (st' := [.int 0]) rfl ?_
      exact dt228_132 hd hk36 hk43 hl  h
    · rw [if_neg hc5] at h
      refine Q.map (A.bF (gI_of zm228 (e := (254, 3, .if_icmp .le 7, [131])) rfl) (fun q => hc5 (of_decide_eq_true q))) ?_
      exact dt228_129 hd hk36 hk43 hl  h
def dm228_103 (k36 : Int32 → Int32 → Int32 → Int32 → Int32 → Int32 → Int32 → aS → Option (Int32 × aS)) (k43 : Int32 → Int32 → Int32 → Int32 → Int32 → Int32 → Int32 → Int32 → aS → Option (Int32 × aS)) (x1 : Int32) (x2 : Int32) (x3 : Int32) (x4 : Int32) (x5 : Int32) (x6 : Int32) (x7 : Int32) (x8 : Int32) (y0 : Int32) (s : aS) : Option (Int32 × aS) :=
  bu (dm229 y0 x3 x4) fun r3 =>
  if x2 = 0 then
    if aB x8 1152 then
      dm228_118 k36 k43 x1 x2 x3 x4 x5 x6 x7 x8 r3 (sI s 134 (jN x8)) s
    else none
  else
    if aB x8 1152 then
      dm228_118 k36 k43 x1 x2 x3 x4 x5 x6 x7 x8 r3 (sI s 133 (jN x8)) s
    else none
set_option maxRecDepth 100000 in
theorem dt228_103 {sio : Bool} {tt : Nat} {cc : Nat → Nat → Int32} {d : Nat} (hd : 1 ≤ d) {k36 : Int32 → Int32 → Int32 → Int32 → Int32 → Int32 → Int32 → aS → Option (Int32 × aS)} (hk36 : ∀ {x1 : Int32} {x2 : Int32} {x3 : Int32} {x4 : Int32} {x5 : Int32} {x6 : Int32} {x7 : Int32} {g8 : Option Value} {g9 : Option Value} {g10 : Option Value} {g11 : Option Value} {g12 : Option Value} {s : aS}, Ly tt cc s → ∀ {o : Int32 × aS}, k36 x1 x2 x3 x4 x5 x6 x7 s = some o → Q 2 sio tt cc d 228 36 [some (.ref 121), some (.int x1), some (.int x2), some (.int x3), some (.int x4), some (.int x5), some (.int x6), some (.int x7), g8, g9, g10, g11, g12] [] s (.inl (some (.int o.1)), o.2)) {k43 : Int32 → Int32 → Int32 → Int32 → Int32 → Int32 → Int32 → Int32 → aS → Option (Int32 × aS)} (hk43 : ∀ {x1 : Int32} {x2 : Int32} {x3 : Int32} {x4 : Int32} {x5 : Int32} {x6 : Int32} {x7 : Int32} {x8 : Int32} {g9 : Option Value} {g10 : Option Value} {g11 : Option Value} {g12 : Option Value} {s : aS}, Ly tt cc s → ∀ {o : Int32 × aS}, k43 x1 x2 x3 x4 x5 x6 x7 x8 s = some o → Q 2 sio tt cc d 228 43 [some (.ref 121), some (.int x1), some (.int x2), some (.int x3), some (.int x4), some (.int x5), some (.int x6), some (.int x7), some (.int x8), g9, g10, g11, g12] [] s (.inl (some (.int o.1)), o.2)) {x1 : Int32} {x2 : Int32} {x3 : Int32} {x4 : Int32} {x5 : Int32} {x6 : Int32} {x7 : Int32} {x8 : Int32} {y0 : Int32} {x9 : Int32} {g10 : Option Value} {g11 : Option Value} {g12 : Option Value} {s : aS} (hl : Ly tt cc s) {o : Int32 × aS} (h : dm228_103 k36 k43 x1 x2 x3 x4 x5 x6 x7 x8 y0 s = some o) : Q 2 sio tt cc d 228 103 [some (.ref 121), some (.int x1), some (.int x2), some (.int x3), some (.int x4), some (.int x5), some (.int x6), some (.int x7), some (.int x8), some (.int x9), g10, g11, g12] [.int y0] s (.inl (some (.int o.1)), o.2) := by
  unfold dm228_103 at h
  obtain ⟨d, rfl⟩ : ∃ e, d = e + 1 := ⟨d - 1, by omega⟩
  refine Q.run zm228 2 (i' := 105) (ls' := [some (.ref 121), some (.int x1), some (.int x2), some (.int x3), some (.int x4), some (.int x5), some (.int x6), some (.int x7), some (.int x8), some (.int x9), g10, g11, g12]) (st' := [.int x4, .int x3, .int y0]) rfl ?_
  obtain ⟨r3, hc2, h⟩ := bu_so h
  have hq1 : Q 2 sio tt cc d 229 0 [some (.int y0), some (.int x3), some (.int x4)] [] s (.inl (some (.int r3)), s) := dt229 (by omega) hl  hc2
  refine Q.callI (gC_st zm228 (show zM228.2.2.2.2.2[105]? = some (207, 3, .invokestatic 320, [0, 229, 3]) from rfl) zm229 (show aC 3 [.int x4, .int x3, .int y0] 3 = some ([some (.int y0), some (.int x3), some (.int x4)], []) from rfl)) hq1 ?_
  refine Q.run zm228 2 (i' := 108) (ls' := [some (.ref 121), some (.int x1), some (.int x2), some (.int x3), some (.int x4), some (.int x5), some (.int x6), some (.int x7), some (.int x8), some (.int x9), some (.int r3), g11, g12]) (st' := [.int x2]) rfl ?_
  by_cases hc4 : x2 = 0
  · rw [if_pos hc4] at h
    refine Q.map (A.zT (gI_of zm228 (e := (213, 3, .ifCond .eq 13, [114])) rfl) (decide_eq_true hc4)) ?_
    refine Q.run zm228 1 (i' := 115) (ls' := [some (.ref 121), some (.int x1), some (.int x2), some (.int x3), some (.int x4), some (.int x5), some (.int x6), some (.int x7), some (.int x8), some (.int x9), some (.int r3), g11, g12]) (st' := [.ref 121]) rfl ?_
    refine Q.map (A.gf (gI_of zm228 (e := (227, 3, .getfield 47, [9, 15])) rfl) (hl.lt (a := 121) (by decide)) (hl.T (a := 121) (p := (9, 45)) 43 rfl rfl) (by decide) (hl.R 35 rfl)) ?_
    refine Q.run zm228 1 (i' := 117) (ls' := [some (.ref 121), some (.int x1), some (.int x2), some (.int x3), some (.int x4), some (.int x5), some (.int x6), some (.int x7), some (.int x8), some (.int x9), some (.int r3), g11, g12]) (st' := [.int x8, .ref 134]) rfl ?_
    obtain ⟨hc5, h⟩ := ite_so h
    refine Q.map (A.ia (gI_of zm228 (e := (232, 1, .iaload, [])) rfl) (hl.lt (a := 134) (by decide)) (hl.T (a := 134) (p := (100, 1152)) 56 rfl rfl) hc5) ?_
    exact dt228_118 hd hk36 hk43 hl  h
  · rw [if_neg hc4] at h
    refine Q.map (A.zF (gI_of zm228 (e := (213, 3, .ifCond .eq 13, [114])) rfl) (fun q => hc4 (of_decide_eq_true q))) ?_
    refine Q.run zm228 1 (i' := 110) (ls' := [some (.ref 121), some (.int x1), some (.int x2), some (.int x3), some (.int x4), some (.int x5), some (.int x6), some (.int x7), some (.int x8), some (.int x9), some (.int r3), g11, g12]) (st' := [.ref 121]) rfl ?_
    refine Q.map (A.gf (gI_of zm228 (e := (217, 3, .getfield 44, [9, 14])) rfl) (hl.lt (a := 121) (by decide)) (hl.T (a := 121) (p := (9, 45)) 43 rfl rfl) (by decide) (hl.R 34 rfl)) ?_
    refine Q.run zm228 1 (i' := 112) (ls' := [some (.ref 121), some (.int x1), some (.int x2), some (.int x3), some (.int x4), some (.int x5), some (.int x6), some (.int x7), some (.int x8), some (.int x9), some (.int r3), g11, g12]) (st' := [.int x8, .ref 133]) rfl ?_
    obtain ⟨hc6, h⟩ := ite_so h
    refine Q.map (A.ia (gI_of zm228 (e := (222, 1, .iaload, [])) rfl) (hl.lt (a := 133) (by decide)) (hl.T (a := 133) (p := (100, 1152)) 55 rfl rfl) hc6) ?_
    refine Q.run zm228 1 (i' := 118) (ls' := [some (.ref 121), some (.int x1), some (.int x2), some (.int x3), some (.int x4), some (.int x5), some (.int x6), some (.int x7), some (.int x8), some (.int x9), some (.int r3), g11, g12]) (st' := [.int (sI s 133 (jN x8))]) rfl ?_
    exact dt228_118 hd hk36 hk43 hl  h
def dm228_89 (k36 : Int32 → Int32 → Int32 → Int32 → Int32 → Int32 → Int32 → aS → Option (Int32 × aS)) (k43 : Int32 → Int32 → Int32 → Int32 → Int32 → Int32 → Int32 → Int32 → aS → Option (Int32 × aS)) (x1 : Int32) (x2 : Int32) (x3 : Int32) (x4 : Int32) (x5 : Int32) (x6 : Int32) (x7 : Int32) (x8 : Int32) (y0 : Int32) (s : aS) : Option (Int32 × aS) :=
  if y0 = 0 then
    dm228_163 k36 k43 x1 x2 x3 x4 x5 x6 x7 x8 s
  else
    if x2 = 0 then
      if aB x8 1152 then
        dm228_103 k36 k43 x1 x2 x3 x4 x5 x6 x7 x8 (sI s 132 (jN x8)) s
      else none
    else
      if aB x8 1152 then
        dm228_103 k36 k43 x1 x2 x3 x4 x5 x6 x7 x8 (sI s 131 (jN x8)) s
      else none
set_option maxRecDepth 100000 in
theorem dt228_89 {sio : Bool} {tt : Nat} {cc : Nat → Nat → Int32} {d : Nat} (hd : 1 ≤ d) {k36 : Int32 → Int32 → Int32 → Int32 → Int32 → Int32 → Int32 → aS → Option (Int32 × aS)} (hk36 : ∀ {x1 : Int32} {x2 : Int32} {x3 : Int32} {x4 : Int32} {x5 : Int32} {x6 : Int32} {x7 : Int32} {g8 : Option Value} {g9 : Option Value} {g10 : Option Value} {g11 : Option Value} {g12 : Option Value} {s : aS}, Ly tt cc s → ∀ {o : Int32 × aS}, k36 x1 x2 x3 x4 x5 x6 x7 s = some o → Q 2 sio tt cc d 228 36 [some (.ref 121), some (.int x1), some (.int x2), some (.int x3), some (.int x4), some (.int x5), some (.int x6), some (.int x7), g8, g9, g10, g11, g12] [] s (.inl (some (.int o.1)), o.2)) {k43 : Int32 → Int32 → Int32 → Int32 → Int32 → Int32 → Int32 → Int32 → aS → Option (Int32 × aS)} (hk43 : ∀ {x1 : Int32} {x2 : Int32} {x3 : Int32} {x4 : Int32} {x5 : Int32} {x6 : Int32} {x7 : Int32} {x8 : Int32} {g9 : Option Value} {g10 : Option Value} {g11 : Option Value} {g12 : Option Value} {s : aS}, Ly tt cc s → ∀ {o : Int32 × aS}, k43 x1 x2 x3 x4 x5 x6 x7 x8 s = some o → Q 2 sio tt cc d 228 43 [some (.ref 121), some (.int x1), some (.int x2), some (.int x3), some (.int x4), some (.int x5), some (.int x6), some (.int x7), some (.int x8), g9, g10, g11, g12] [] s (.inl (some (.int o.1)), o.2)) {x1 : Int32} {x2 : Int32} {x3 : Int32} {x4 : Int32} {x5 : Int32} {x6 : Int32} {x7 : Int32} {x8 : Int32} {y0 : Int32} {g9 : Option Value} {g10 : Option Value} {g11 : Option Value} {g12 : Option Value} {s : aS} (hl : Ly tt cc s) {o : Int32 × aS} (h : dm228_89 k36 k43 x1 x2 x3 x4 x5 x6 x7 x8 y0 s = some o) : Q 2 sio tt cc d 228 89 [some (.ref 121), some (.int x1), some (.int x2), some (.int x3), some (.int x4), some (.int x5), some (.int x6), some (.int x7), some (.int x8), g9, g10, g11, g12] [.int y0] s (.inl (some (.int o.1)), o.2) := by
  unfold dm228_89 at h
  obtain ⟨d, rfl⟩ : ∃ e, d = e + 1 := ⟨d - 1, by omega⟩
  refine Q.run zm228 2 (i' := 91) (ls' := [some (.ref 121), some (.int x1), some (.int x2), some (.int x3), some (.int x4), some (.int x5), some (.int x6), some (.int x7), some (.int x8), some (.int y0), g10, g11, g12]) (st' := [.int y0]) rfl ?_
  by_cases hc1 : y0 = 0
  · rw [if_pos hc1] at h
    refine Q.map (A.zT (gI_of zm228 (e := (180, 3, .ifCond .eq 144, [163])) rfl) (decide_eq_true hc1)) ?_
    exact dt228_163 hd hk36 hk43 hl  h
  · rw [if_neg hc1] at h
    refine Q.map (A.zF (gI_of zm228 (e := (180, 3, .ifCond .eq 144, [163])) rfl) (fun q => hc1 (of_decide_eq_true q))) ?_
    refine Q.run zm228 1 (i' := 93) (ls' := [some (.ref 121), some (.int x1), some (.int x2), some (.int x3), some (.int x4), some (.int x5), some (.int x6), some (.int x7), some (.int x8), some (.int y0), g10, g11, g12]) (st' := [.int x2]) rfl ?_
    by_cases hc2 : x2 = 0
    · rw [if_pos hc2] at h
      refine Q.map (A.zT (gI_of zm228 (e := (184, 3, .ifCond .eq 13, [99])) rfl) (decide_eq_true hc2)) ?_
      refine Q.run zm228 1 (i' := 100) (ls' := [some (.ref 121), some (.int x1), some (.int x2), some (.int x3), some (.int x4), some (.int x5), some (.int x6), some (.int x7), some (.int x8), some (.int y0), g10, g11, g12]) (st' := [.ref 121]) rfl ?_
      refine Q.map (A.gf (gI_of zm228 (e := (198, 3, .getfield 41, [9, 13])) rfl) (hl.lt (a := 121) (by decide)) (hl.T (a := 121) (p := (9, 45)) 43 rfl rfl) (by decide) (hl.R 33 rfl)) ?_
      refine Q.run zm228 1 (i' := 102) (ls' := [some (.ref 121), some (.int x1), some (.int x2), some (.int x3), some (.int x4), some (.int x5), some (.int x6), some (.int x7), some (.int x8), some (.int y0), g10, g11, g12]) (st' := [.int x8, .ref 132]) rfl ?_
      obtain ⟨hc3, h⟩ := ite_so h
      refine Q.map (A.ia (gI_of zm228 (e := (203, 1, .iaload, [])) rfl) (hl.lt (a := 132) (by decide)) (hl.T (a := 132) (p := (100, 1152)) 54 rfl rfl) hc3) ?_
      exact dt228_103 hd hk36 hk43 hl  h
    · rw [if_neg hc2] at h
      refine Q.map (A.zF (gI_of zm228 (e := (184, 3, .ifCond .eq 13, [99])) rfl) (fun q => hc2 (of_decide_eq_true q))) ?_
      refine Q.run zm228 1 (i' := 95) (ls' := [some (.ref 121), some (.int x1), some (.int x2), some (.int x3), some (.int x4), some (.int x5), some (.int x6), some (.int x7), some (.int x8), some (.int y0), g10, g11, g12]) (st' := [.ref 121]) rfl ?_
      refine Q.map (A.gf (gI_of zm228 (e := (188, 3, .getfield 38, [9, 12])) rfl) (hl.lt (a := 121) (by decide)) (hl.T (a := 121) (p := (9, 45)) 43 rfl rfl) (by decide) (hl.R 32 rfl)) ?_
      refine Q.run zm228 1 (i' := 97) (ls' := [some (.ref 121), some (.int x1), some (.int x2), some (.int x3), some (.int x4), some (.int x5), some (.int x6), some (.int x7), some (.int x8), some (.int y0), g10, g11, g12]) (st' := [.int x8, .ref 131]) rfl ?_
      obtain ⟨hc4, h⟩ := ite_so h
      refine Q.map (A.ia (gI_of zm228 (e := (193, 1, .iaload, [])) rfl) (hl.lt (a := 131) (by decide)) (hl.T (a := 131) (p := (100, 1152)) 53 rfl rfl) hc4) ?_
      refine Q.run zm228 1 (i' := 103) (ls' := [some (.ref 121), some (.int x1), some (.int x2), some (.int x3), some (.int x4), some (.int x5), some (.int x6), some (.int x7), some (.int x8), some (.int y0), g10, g11, g12]) (st' := [.int (sI s 131 (jN x8))]) rfl ?_
      exact dt228_103 hd hk36 hk43 hl  h
def dm228_88 (k36 : Int32 → Int32 → Int32 → Int32 → Int32 → Int32 → Int32 → aS → Option (Int32 × aS)) (k43 : Int32 → Int32 → Int32 → Int32 → Int32 → Int32 → Int32 → Int32 → aS → Option (Int32 × aS)) (x1 : Int32) (x2 : Int32) (x3 : Int32) (x4 : Int32) (x5 : Int32) (x6 : Int32) (x7 : Int32) (x8 : Int32) (s : aS) : Option (Int32 × aS) :=
  dm228_89 k36 k43 x1 x2 x3 x4 x5 x6 x7 x8 0 s
set_option maxRecDepth 100000 in
theorem dt228_88 {sio : Bool} {tt : Nat} {cc : Nat → Nat → Int32} {d : Nat} (hd : 1 ≤ d) {k36 : Int32 → Int32 → Int32 → Int32 → Int32 → Int32 → Int32 → aS → Option (Int32 × aS)} (hk36 : ∀ {x1 : Int32} {x2 : Int32} {x3 : Int32} {x4 : Int32} {x5 : Int32} {x6 : Int32} {x7 : Int32} {g8 : Option Value} {g9 : Option Value} {g10 : Option Value} {g11 : Option Value} {g12 : Option Value} {s : aS}, Ly tt cc s → ∀ {o : Int32 × aS}, k36 x1 x2 x3 x4 x5 x6 x7 s = some o → Q 2 sio tt cc d 228 36 [some (.ref 121), some (.int x1), some (.int x2), some (.int x3), some (.int x4), some (.int x5), some (.int x6), some (.int x7), g8, g9, g10, g11, g12] [] s (.inl (some (.int o.1)), o.2)) {k43 : Int32 → Int32 → Int32 → Int32 → Int32 → Int32 → Int32 → Int32 → aS → Option (Int32 × aS)} (hk43 : ∀ {x1 : Int32} {x2 : Int32} {x3 : Int32} {x4 : Int32} {x5 : Int32} {x6 : Int32} {x7 : Int32} {x8 : Int32} {g9 : Option Value} {g10 : Option Value} {g11 : Option Value} {g12 : Option Value} {s : aS}, Ly tt cc s → ∀ {o : Int32 × aS}, k43 x1 x2 x3 x4 x5 x6 x7 x8 s = some o → Q 2 sio tt cc d 228 43 [some (.ref 121), some (.int x1), some (.int x2), some (.int x3), some (.int x4), some (.int x5), some (.int x6), some (.int x7), some (.int x8), g9, g10, g11, g12] [] s (.inl (some (.int o.1)), o.2)) {x1 : Int32} {x2 : Int32} {x3 : Int32} {x4 : Int32} {x5 : Int32} {x6 : Int32} {x7 : Int32} {x8 : Int32} {g9 : Option Value} {g10 : Option Value} {g11 : Option Value} {g12 : Option Value} {s : aS} (hl : Ly tt cc s) {o : Int32 × aS} (h : dm228_88 k36 k43 x1 x2 x3 x4 x5 x6 x7 x8 s = some o) : Q 2 sio tt cc d 228 88 [some (.ref 121), some (.int x1), some (.int x2), some (.int x3), some (.int x4), some (.int x5), some (.int x6), some (.int x7), some (.int x8), g9, g10, g11, g12] [] s (.inl (some (.int o.1)), o.2) := by
  unfold dm228_88 at h
  obtain ⟨d, rfl⟩ : ∃ e, d = e + 1 := ⟨d - 1, by omega⟩
  refine Q.run zm228 1 (i' := 89) (ls' := [some (.ref 121), some (.int x1), some (.int x2), some (.int x3), some (.int x4), some (.int x5), some (.int x6), some (.int x7), some (.int x8), g9, g10, g11, g12]) (st' := [.int 0]) rfl ?_
  exact dt228_89 hd hk36 hk43 hl  h
def dm228_84 (k36 : Int32 → Int32 → Int32 → Int32 → Int32 → Int32 → Int32 → aS → Option (Int32 × aS)) (k43 : Int32 → Int32 → Int32 → Int32 → Int32 → Int32 → Int32 → Int32 → aS → Option (Int32 × aS)) (x1 : Int32) (x2 : Int32) (x3 : Int32) (x4 : Int32) (x5 : Int32) (x6 : Int32) (x7 : Int32) (x8 : Int32) (y0 : Int32) (s : aS) : Option (Int32 × aS) :=
  if y0 = x1 then
    dm228_89 k36 k43 x1 x2 x3 x4 x5 x6 x7 x8 1 s
  else
    dm228_88 k36 k43 x1 x2 x3 x4 x5 x6 x7 x8 s
set_option maxRecDepth 100000 in
theorem dt228_84 {sio : Bool} {tt : Nat} {cc : Nat → Nat → Int32} {d : Nat} (hd : 1 ≤ d) {k36 : Int32 → Int32 → Int32 → Int32 → Int32 → Int32 → Int32 → aS → Option (Int32 × aS)} (hk36 : ∀ {x1 : Int32} {x2 : Int32} {x3 : Int32} {x4 : Int32} {x5 : Int32} {x6 : Int32} {x7 : Int32} {g8 : Option Value} {g9 : Option Value} {g10 : Option Value} {g11 : Option Value} {g12 : Option Value} {s : aS}, Ly tt cc s → ∀ {o : Int32 × aS}, k36 x1 x2 x3 x4 x5 x6 x7 s = some o → Q 2 sio tt cc d 228 36 [some (.ref 121), some (.int x1), some (.int x2), some (.int x3), some (.int x4), some (.int x5), some (.int x6), some (.int x7), g8, g9, g10, g11, g12] [] s (.inl (some (.int o.1)), o.2)) {k43 : Int32 → Int32 → Int32 → Int32 → Int32 → Int32 → Int32 → Int32 → aS → Option (Int32 × aS)} (hk43 : ∀ {x1 : Int32} {x2 : Int32} {x3 : Int32} {x4 : Int32} {x5 : Int32} {x6 : Int32} {x7 : Int32} {x8 : Int32} {g9 : Option Value} {g10 : Option Value} {g11 : Option Value} {g12 : Option Value} {s : aS}, Ly tt cc s → ∀ {o : Int32 × aS}, k43 x1 x2 x3 x4 x5 x6 x7 x8 s = some o → Q 2 sio tt cc d 228 43 [some (.ref 121), some (.int x1), some (.int x2), some (.int x3), some (.int x4), some (.int x5), some (.int x6), some (.int x7), some (.int x8), g9, g10, g11, g12] [] s (.inl (some (.int o.1)), o.2)) {x1 : Int32} {x2 : Int32} {x3 : Int32} {x4 : Int32} {x5 : Int32} {x6 : Int32} {x7 : Int32} {x8 : Int32} {y0 : Int32} {g9 : Option Value} {g10 : Option Value} {g11 : Option Value} {g12 : Option Value} {s : aS} (hl : Ly tt cc s) {o : Int32 × aS} (h : dm228_84 k36 k43 x1 x2 x3 x4 x5 x6 x7 x8 y0 s = some o) : Q 2 sio tt cc d 228 84 [some (.ref 121), some (.int x1), some (.int x2), some (.int x3), some (.int x4), some (.int x5), some (.int x6), some (.int x7), some (.int x8), g9, g10, g11, g12] [.int y0] s (.inl (some (.int o.1)), o.2) := by
  unfold dm228_84 at h
  obtain ⟨d, rfl⟩ : ∃ e, d = e + 1 := ⟨d - 1, by omega⟩
  refine Q.run zm228 1 (i' := 85) (ls' := [some (.ref 121), some (.int x1), some (.int x2), some (.int x3), some (.int x4), some (.int x5), some (.int x6), some (.int x7), some (.int x8), g9, g10, g11, g12]) (st' := [.int x1, .int y0]) rfl ?_
  by_cases hc1 : y0 = x1
  · rw [if_pos hc1] at h
    refine Q.map (A.bF (gI_of zm228 (e := (168, 3, .if_icmp .ne 7, [88])) rfl) (fun q => of_decide_eq_true q hc1)) ?_
    refine Q.run zm228 2 (i' := 89) (ls' := [some (.ref 121), some (.int x1), some (.int x2), some (.int x3), some (.int x4), some (.int x5), some (.int x6), some (.int x7), some (.int x8), g9, g10, g11, g12]) (st' := [.int 1]) rfl ?_
    exact dt228_89 hd hk36 hk43 hl  h
  · rw [if_neg hc1] at h
    refine Q.map (A.bT (gI_of zm228 (e := (168, 3, .if_icmp .ne 7, [88])) rfl) (decide_eq_true hc1)) ?_
    exact dt228_88 hd hk36 hk43 hl  h
def dm228_70 (k36 : Int32 → Int32 → Int32 → Int32 → Int32 → Int32 → Int32 → aS → Option (Int32 × aS)) (k43 : Int32 → Int32 → Int32 → Int32 → Int32 → Int32 → Int32 → Int32 → aS → Option (Int32 × aS)) (x1 : Int32) (x2 : Int32) (x3 : Int32) (x4 : Int32) (x5 : Int32) (x6 : Int32) (x7 : Int32) (x8 : Int32) (s : aS) : Option (Int32 × aS) :=
  if aB x8 1152 then
    if 0 ≤ (sI s 130 (jN x8)) then
      if aB x8 1152 then
        dm228_84 k36 k43 x1 x2 x3 x4 x5 x6 x7 x8 (sI s 130 (jN x8)) s
      else none
    else
      if aB x7 8 then
        dm228_84 k36 k43 x1 x2 x3 x4 x5 x6 x7 x8 (sI s 126 (jN x7)) s
      else none
  else none
set_option maxRecDepth 100000 in
theorem dt228_70 {sio : Bool} {tt : Nat} {cc : Nat → Nat → Int32} {d : Nat} (hd : 1 ≤ d) {k36 : Int32 → Int32 → Int32 → Int32 → Int32 → Int32 → Int32 → aS → Option (Int32 × aS)} (hk36 : ∀ {x1 : Int32} {x2 : Int32} {x3 : Int32} {x4 : Int32} {x5 : Int32} {x6 : Int32} {x7 : Int32} {g8 : Option Value} {g9 : Option Value} {g10 : Option Value} {g11 : Option Value} {g12 : Option Value} {s : aS}, Ly tt cc s → ∀ {o : Int32 × aS}, k36 x1 x2 x3 x4 x5 x6 x7 s = some o → Q 2 sio tt cc d 228 36 [some (.ref 121), some (.int x1), some (.int x2), some (.int x3), some (.int x4), some (.int x5), some (.int x6), some (.int x7), g8, g9, g10, g11, g12] [] s (.inl (some (.int o.1)), o.2)) {k43 : Int32 → Int32 → Int32 → Int32 → Int32 → Int32 → Int32 → Int32 → aS → Option (Int32 × aS)} (hk43 : ∀ {x1 : Int32} {x2 : Int32} {x3 : Int32} {x4 : Int32} {x5 : Int32} {x6 : Int32} {x7 : Int32} {x8 : Int32} {g9 : Option Value} {g10 : Option Value} {g11 : Option Value} {g12 : Option Value} {s : aS}, Ly tt cc s → ∀ {o : Int32 × aS}, k43 x1 x2 x3 x4 x5 x6 x7 x8 s = some o → Q 2 sio tt cc d 228 43 [some (.ref 121), some (.int x1), some (.int x2), some (.int x3), some (.int x4), some (.int x5), some (.int x6), some (.int x7), some (.int x8), g9, g10, g11, g12] [] s (.inl (some (.int o.1)), o.2)) {x1 : Int32} {x2 : Int32} {x3 : Int32} {x4 : Int32} {x5 : Int32} {x6 : Int32} {x7 : Int32} {x8 : Int32} {g9 : Option Value} {g10 : Option Value} {g11 : Option Value} {g12 : Option Value} {s : aS} (hl : Ly tt cc s) {o : Int32 × aS} (h : dm228_70 k36 k43 x1 x2 x3 x4 x5 x6 x7 x8 s = some o) : Q 2 sio tt cc d 228 70 [some (.ref 121), some (.int x1), some (.int x2), some (.int x3), some (.int x4), some (.int x5), some (.int x6), some (.int x7), some (.int x8), g9, g10, g11, g12] [] s (.inl (some (.int o.1)), o.2) := by
  unfold dm228_70 at h
  obtain ⟨d, rfl⟩ : ∃ e, d = e + 1 := ⟨d - 1, by omega⟩
  refine Q.run zm228 1 (i' := 71) (ls' := [some (.ref 121), some (.int x1), some (.int x2), some (.int x3), some (.int x4), some (.int x5), some (.int x6), some (.int x7), some (.int x8), g9, g10, g11, g12]) (st' := [.ref 121]) rfl ?_
  refine Q.map (A.gf (gI_of zm228 (e := (141, 3, .getfield 35, [9, 11])) rfl) (hl.lt (a := 121) (by decide)) (hl.T (a := 121) (p := (9, 45)) 43 rfl rfl) (by decide) (hl.R 31 rfl)) ?_
  refine Q.run zm228 1 (i' := 73) (ls' := [some (.ref 121), some (.int x1), some (.int x2), some (.int x3), some (.int x4), some (.int x5), some (.int x6), some (.int x7), some (.int x8), g9, g10, g11, g12]) (st' := [.int x8, .ref 130]) rfl ?_
  obtain ⟨hc1, h⟩ := ite_so h
  refine Q.map (A.ia (gI_of zm228 (e := (146, 1, .iaload, [])) rfl) (hl.lt (a := 130) (by decide)) (hl.T (a := 130) (p := (100, 1152)) 52 rfl rfl) hc1) ?_
  by_cases hc2 : 0 ≤ (sI s 130 (jN x8))
  · rw [if_pos hc2] at h
    refine Q.map (A.zT (gI_of zm228 (e := (147, 3, .ifCond .ge 13, [80])) rfl) (decide_eq_true hc2)) ?_
    refine Q.run zm228 1 (i' := 81) (ls' := [some (.ref 121), some (.int x1), some (.int x2), some (.int x3), some (.int x4), some (.int x5), some (.int x6), some (.int x7), some (.int x8), g9, g10, g11, g12]) (st' := [.ref 121]) rfl ?_
    refine Q.map (A.gf (gI_of zm228 (e := (161, 3, .getfield 35, [9, 11])) rfl) (hl.lt (a := 121) (by decide)) (hl.T (a := 121) (p := (9, 45)) 43 rfl rfl) (by decide) (hl.R 31 rfl)) ?_
    refine Q.run zm228 1 (i' := 83) (ls' := [some (.ref 121), some (.int x1), some (.int x2), some (.int x3), some (.int x4), some (.int x5), some (.int x6), some (.int x7), some (.int x8), g9, g10, g11, g12]) (st' := [.int x8, .ref 130]) rfl ?_
    obtain ⟨hc3, h⟩ := ite_so h
    refine Q.map (A.ia (gI_of zm228 (e := (166, 1, .iaload, [])) rfl) (hl.lt (a := 130) (by decide)) (hl.T (a := 130) (p := (100, 1152)) 52 rfl rfl) hc3) ?_
    exact dt228_84 hd hk36 hk43 hl  h
  · rw [if_neg hc2] at h
    refine Q.map (A.zF (gI_of zm228 (e := (147, 3, .ifCond .ge 13, [80])) rfl) (fun q => hc2 (of_decide_eq_true q))) ?_
    refine Q.run zm228 1 (i' := 76) (ls' := [some (.ref 121), some (.int x1), some (.int x2), some (.int x3), some (.int x4), some (.int x5), some (.int x6), some (.int x7), some (.int x8), g9, g10, g11, g12]) (st' := [.ref 121]) rfl ?_
    refine Q.map (A.gf (gI_of zm228 (e := (151, 3, .getfield 23, [9, 7])) rfl) (hl.lt (a := 121) (by decide)) (hl.T (a := 121) (p := (9, 45)) 43 rfl rfl) (by decide) (hl.R 27 rfl)) ?_
    refine Q.run zm228 1 (i' := 78) (ls' := [some (.ref 121), some (.int x1), some (.int x2), some (.int x3), some (.int x4), some (.int x5), some (.int x6), some (.int x7), some (.int x8), g9, g10, g11, g12]) (st' := [.int x7, .ref 126]) rfl ?_
    obtain ⟨hc4, h⟩ := ite_so h
    refine Q.map (A.ia (gI_of zm228 (e := (156, 1, .iaload, [])) rfl) (hl.lt (a := 126) (by decide)) (hl.T (a := 126) (p := (100, 8)) 48 rfl rfl) hc4) ?_
    refine Q.run zm228 1 (i' := 84) (ls' := [some (.ref 121), some (.int x1), some (.int x2), some (.int x3), some (.int x4), some (.int x5), some (.int x6), some (.int x7), some (.int x8), g9, g10, g11, g12]) (st' := [.int (sI s 126 (jN x7))]) rfl ?_
    exact dt228_84 hd hk36 hk43 hl  h
def dm228_43 (k36 : Int32 → Int32 → Int32 → Int32 → Int32 → Int32 → Int32 → aS → Option (Int32 × aS)) : Nat → Int32 → Int32 → Int32 → Int32 → Int32 → Int32 → Int32 → Int32 → aS → Option (Int32 × aS)
  | 0, _, _, _, _, _, _, _, _, _ => none
  | n + 1, x1, x2, x3, x4, x5, x6, x7, x8, s =>
    if aB x7 8 then
      if (sI s 125 (jN x7)) = 0 then
        dm228_165 k36 x1 x2 x3 x4 x5 x6 x7 s
      else
        if aB x7 9 then
          if ((128 * x7) + (sI s 127 (jN x7))) ≤ x8 then
            dm228_165 k36 x1 x2 x3 x4 x5 x6 x7 s
          else
            if aB x8 1152 then
              if (sI s 128 (jN x8)) = 4 then
                dm228_70 k36 (dm228_43 k36 n) x1 x2 x3 x4 x5 x6 x7 x8 s
              else
                if aB x8 1152 then
                  if (sI s 128 (jN x8)) = 5 then
                    dm228_70 k36 (dm228_43 k36 n) x1 x2 x3 x4 x5 x6 x7 x8 s
                  else
                    dm228_88 k36 (dm228_43 k36 n) x1 x2 x3 x4 x5 x6 x7 x8 s
                else none
            else none
        else none
    else none
set_option maxRecDepth 100000 in
theorem dt228_43 {sio : Bool} {tt : Nat} {cc : Nat → Nat → Int32} {d : Nat} (hd : 1 ≤ d) {k36 : Int32 → Int32 → Int32 → Int32 → Int32 → Int32 → Int32 → aS → Option (Int32 × aS)} (hk36 : ∀ {x1 : Int32} {x2 : Int32} {x3 : Int32} {x4 : Int32} {x5 : Int32} {x6 : Int32} {x7 : Int32} {g8 : Option Value} {g9 : Option Value} {g10 : Option Value} {g11 : Option Value} {g12 : Option Value} {s : aS}, Ly tt cc s → ∀ {o : Int32 × aS}, k36 x1 x2 x3 x4 x5 x6 x7 s = some o → Q 2 sio tt cc d 228 36 [some (.ref 121), some (.int x1), some (.int x2), some (.int x3), some (.int x4), some (.int x5), some (.int x6), some (.int x7), g8, g9, g10, g11, g12] [] s (.inl (some (.int o.1)), o.2)) : ∀ (n : Nat) {x1 : Int32} {x2 : Int32} {x3 : Int32} {x4 : Int32} {x5 : Int32} {x6 : Int32} {x7 : Int32} {x8 : Int32} {g9 : Option Value} {g10 : Option Value} {g11 : Option Value} {g12 : Option Value} {s : aS} (_ : Ly tt cc s) {o : Int32 × aS} (_ : dm228_43 k36 n x1 x2 x3 x4 x5 x6 x7 x8 s = some o), Q 2 sio tt cc d 228 43 [some (.ref 121), some (.int x1), some (.int x2), some (.int x3), some (.int x4), some (.int x5), some (.int x6), some (.int x7), some (.int x8), g9, g10, g11, g12] [] s (.inl (some (.int o.1)), o.2) := by
  obtain ⟨d, rfl⟩ : ∃ e, d = e + 1 := ⟨d - 1, by omega⟩
  intro n
  induction n with
  | zero => intro x1 x2 x3 x4 x5 x6 x7 x8 g9 g10 g11 g12 s hl o h; rw [dm228_43] at h; cases h
  | succ n ih =>
    intro x1 x2 x3 x4 x5 x6 x7 x8 g9 g10 g11 g12 s hl o h
    rw [dm228_43] at h
    refine Q.run zm228 1 (i' := 44) (ls' := [some (.ref 121), some (.int x1), some (.int x2), some (.int x3), some (.int x4), some (.int x5), some (.int x6), some (.int x7), some (.int x8), g9, g10, g11, g12]) (st' := [.ref 121]) rfl ?_
    refine Q.map (A.gf (gI_of zm228 (e := (90, 3, .getfield 19, [9, 6])) rfl) (hl.lt (a := 121) (by decide)) (hl.T (a := 121) (p := (9, 45)) 43 rfl rfl) (by decide) (hl.R 26 rfl)) ?_
    refine Q.run zm228 1 (i' := 46) (ls' := [some (.ref 121), some (.int x1), some (.int x2), some (.int x3), some (.int x4), some (.int x5), some (.int x6), some (.int x7), some (.int x8), g9, g10, g11, g12]) (st' := [.int x7, .ref 125]) rfl ?_
    obtain ⟨hc1, h⟩ := ite_so h
    refine Q.map (A.ba (gI_of zm228 (e := (95, 1, .baload, [])) rfl) (hl.lt (a := 125) (by decide)) (hl.T (a := 125) (p := (103, 8)) 47 rfl rfl) (by decide) hc1) ?_
    by_cases hc2 : (sI s 125 (jN x7)) = 0
    · rw [if_pos hc2] at h
      refine Q.map (A.zT (gI_of zm228 (e := (96, 3, .ifCond .eq 234, [165])) rfl) (decide_eq_true hc2)) ?_
      exact dt228_165 hd hk36 hl  h
    · rw [if_neg hc2] at h
      refine Q.map (A.zF (gI_of zm228 (e := (96, 3, .ifCond .eq 234, [165])) rfl) (fun q => hc2 (of_decide_eq_true q))) ?_
      refine Q.run zm228 5 (i' := 53) (ls' := [some (.ref 121), some (.int x1), some (.int x2), some (.int x3), some (.int x4), some (.int x5), some (.int x6), some (.int x7), some (.int x8), g9, g10, g11, g12]) (st' := [.ref 121, .int (128 * x7), .int x8]) rfl ?_
      refine Q.map (A.gf (gI_of zm228 (e := (108, 3, .getfield 26, [9, 8])) rfl) (hl.lt (a := 121) (by decide)) (hl.T (a := 121) (p := (9, 45)) 43 rfl rfl) (by decide) (hl.R 28 rfl)) ?_
      refine Q.run zm228 1 (i' := 55) (ls' := [some (.ref 121), some (.int x1), some (.int x2), some (.int x3), some (.int x4), some (.int x5), some (.int x6), some (.int x7), some (.int x8), g9, g10, g11, g12]) (st' := [.int x7, .ref 127, .int (128 * x7), .int x8]) rfl ?_
      obtain ⟨hc3, h⟩ := ite_so h
      refine Q.map (A.ia (gI_of zm228 (e := (113, 1, .iaload, [])) rfl) (hl.lt (a := 127) (by decide)) (hl.T (a := 127) (p := (100, 9)) 49 rfl rfl) hc3) ?_
      refine Q.run zm228 1 (i' := 57) (ls' := [some (.ref 121), some (.int x1), some (.int x2), some (.int x3), some (.int x4), some (.int x5), some (.int x6), some (.int x7), some (.int x8), g9, g10, g11, g12]) (st' := [.int ((128 * x7) + (sI s 127 (jN x7))), .int x8]) rfl ?_
      by_cases hc4 : ((128 * x7) + (sI s 127 (jN x7))) ≤ x8
      · rw [if_pos hc4] at h
        refine Q.map (A.bT (gI_of zm228 (e := (115, 3, .if_icmp .ge 215, [165])) rfl) (decide_eq_true hc4)) ?_
        exact dt228_165 hd hk36 hl  h
      · rw [if_neg hc4] at h
        refine Q.map (A.bF (gI_of zm228 (e := (115, 3, .if_icmp .ge 215, [165])) rfl) (fun q => hc4 (of_decide_eq_true q))) ?_
        refine Q.run zm228 1 (i' := 59) (ls' := [some (.ref 121), some (.int x1), some (.int x2), some (.int x3), some (.int x4), some (.int x5), some (.int x6), some (.int x7), some (.int x8), g9, g10, g11, g12]) (st' := [.ref 121]) rfl ?_
        refine Q.map (A.gf (gI_of zm228 (e := (119, 3, .getfield 29, [9, 9])) rfl) (hl.lt (a := 121) (by decide)) (hl.T (a := 121) (p := (9, 45)) 43 rfl rfl) (by decide) (hl.R 29 rfl)) ?_
        refine Q.run zm228 1 (i' := 61) (ls' := [some (.ref 121), some (.int x1), some (.int x2), some (.int x3), some (.int x4), some (.int x5), some (.int x6), some (.int x7), some (.int x8), g9, g10, g11, g12]) (st' := [.int x8, .ref 128]) rfl ?_
        obtain ⟨hc5, h⟩ := ite_so h
        refine Q.map (A.ia (gI_of zm228 (e := (124, 1, .iaload, [])) rfl) (hl.lt (a := 128) (by decide)) (hl.T (a := 128) (p := (100, 1152)) 50 rfl rfl) hc5) ?_
        refine Q.run zm228 1 (i' := 63) (ls' := [some (.ref 121), some (.int x1), some (.int x2), some (.int x3), some (.int x4), some (.int x5), some (.int x6), some (.int x7), some (.int x8), g9, g10, g11, g12]) (st' := [.int 4, .int (sI s 128 (jN x8))]) rfl ?_
        by_cases hc6 : (sI s 128 (jN x8)) = 4
        · rw [if_pos hc6] at h
          refine Q.map (A.bT (gI_of zm228 (e := (126, 3, .if_icmp .eq 14, [70])) rfl) (decide_eq_true hc6)) ?_
          exact dt228_70 hd hk36 ih hl  h
        · rw [if_neg hc6] at h
          refine Q.map (A.bF (gI_of zm228 (e := (126, 3, .if_icmp .eq 14, [70])) rfl) (fun q => hc6 (of_decide_eq_true q))) ?_
          refine Q.run zm228 1 (i' := 65) (ls' := [some (.ref 121), some (.int x1), some (.int x2), some (.int x3), some (.int x4), some (.int x5), some (.int x6), some (.int x7), some (.int x8), g9, g10, g11, g12]) (st' := [.ref 121]) rfl ?_
          refine Q.map (A.gf (gI_of zm228 (e := (130, 3, .getfield 29, [9, 9])) rfl) (hl.lt (a := 121) (by decide)) (hl.T (a := 121) (p := (9, 45)) 43 rfl rfl) (by decide) (hl.R 29 rfl)) ?_
          refine Q.run zm228 1 (i' := 67) (ls' := [some (.ref 121), some (.int x1), some (.int x2), some (.int x3), some (.int x4), some (.int x5), some (.int x6), some (.int x7), some (.int x8), g9, g10, g11, g12]) (st' := [.int x8, .ref 128]) rfl ?_
          obtain ⟨hc7, h⟩ := ite_so h
          refine Q.map (A.ia (gI_of zm228 (e := (135, 1, .iaload, [])) rfl) (hl.lt (a := 128) (by decide)) (hl.T (a := 128) (p := (100, 1152)) 50 rfl rfl) hc7) ?_
          refine Q.run zm228 1 (i' := 69) (ls' := [some (.ref 121), some (.int x1), some (.int x2), some (.int x3), some (.int x4), some (.int x5), some (.int x6), some (.int x7), some (.int x8), g9, g10, g11, g12]) (st' := [.int 5, .int (sI s 128 (jN x8))]) rfl ?_
          by_cases hc8 : (sI s 128 (jN x8)) = 5
          · rw [if_pos hc8] at h
            refine Q.map (A.bF (gI_of zm228 (e := (137, 3, .if_icmp .ne 38, [88])) rfl) (fun q => of_decide_eq_true q hc8)) ?_
            exact dt228_70 hd hk36 ih hl  h
          · rw [if_neg hc8] at h
            refine Q.map (A.bT (gI_of zm228 (e := (137, 3, .if_icmp .ne 38, [88])) rfl) (decide_eq_true hc8)) ?_
            exact dt228_88 hd hk36 ih hl  h
def dm228_36 : Nat → Int32 → Int32 → Int32 → Int32 → Int32 → Int32 → Int32 → aS → Option (Int32 × aS)
  | 0, _, _, _, _, _, _, _, _ => none
  | n + 1, x1, x2, x3, x4, x5, x6, x7, s =>
    if 8 ≤ x7 then
      some (x6, s)
    else
      dm228_43 (dm228_36 n) 5000 x1 x2 x3 x4 x5 x6 x7 (128 * x7) s
set_option maxRecDepth 100000 in
theorem dt228_36 {sio : Bool} {tt : Nat} {cc : Nat → Nat → Int32} {d : Nat} (hd : 1 ≤ d) : ∀ (n : Nat) {x1 : Int32} {x2 : Int32} {x3 : Int32} {x4 : Int32} {x5 : Int32} {x6 : Int32} {x7 : Int32} {g8 : Option Value} {g9 : Option Value} {g10 : Option Value} {g11 : Option Value} {g12 : Option Value} {s : aS} (_ : Ly tt cc s) {o : Int32 × aS} (_ : dm228_36  n x1 x2 x3 x4 x5 x6 x7 s = some o), Q 2 sio tt cc d 228 36 [some (.ref 121), some (.int x1), some (.int x2), some (.int x3), some (.int x4), some (.int x5), some (.int x6), some (.int x7), g8, g9, g10, g11, g12] [] s (.inl (some (.int o.1)), o.2) := by
  obtain ⟨d, rfl⟩ : ∃ e, d = e + 1 := ⟨d - 1, by omega⟩
  intro n
  induction n with
  | zero => intro x1 x2 x3 x4 x5 x6 x7 g8 g9 g10 g11 g12 s hl o h; rw [dm228_36] at h; cases h
  | succ n ih =>
    intro x1 x2 x3 x4 x5 x6 x7 g8 g9 g10 g11 g12 s hl o h
    rw [dm228_36] at h
    refine Q.run zm228 2 (i' := 38) (ls' := [some (.ref 121), some (.int x1), some (.int x2), some (.int x3), some (.int x4), some (.int x5), some (.int x6), some (.int x7), g8, g9, g10, g11, g12]) (st' := [.int 8, .int x7]) rfl ?_
    by_cases hc1 : 8 ≤ x7
    · rw [if_pos hc1] at h
      refine Q.map (A.bT (gI_of zm228 (e := (78, 3, .if_icmp .ge 258, [167])) rfl) (decide_eq_true hc1)) ?_
      refine Q.run zm228 1 (i' := 168) (ls' := [some (.ref 121), some (.int x1), some (.int x2), some (.int x3), some (.int x4), some (.int x5), some (.int x6), some (.int x7), g8, g9, g10, g11, g12]) (st' := [.int x6]) rfl ?_
      cases h
      exact Q.ret (A.ri zm228 (show zM228.2.2.2.2.2[168]? = some (338, 1, .ireturn, []) from rfl) rfl rfl) hl
    · rw [if_neg hc1] at h
      refine Q.map (A.bF (gI_of zm228 (e := (78, 3, .if_icmp .ge 258, [167])) rfl) (fun q => hc1 (of_decide_eq_true q))) ?_
      refine Q.run zm228 4 (i' := 43) (ls' := [some (.ref 121), some (.int x1), some (.int x2), some (.int x3), some (.int x4), some (.int x5), some (.int x6), some (.int x7), some (.int (128 * x7)), g9, g10, g11, g12]) (st' := []) rfl ?_
      exact dt228_43 hd ih _ hl  h
def dm228_26 (x1 : Int32) (x2 : Int32) (x3 : Int32) (x4 : Int32) (x5 : Int32) (y1 : Int32) (s : aS) : Option (Int32 × aS) :=
  nx (wI s 121 0 y1) fun s1 =>
  if (sI s1 121 0) ≤ 0 then
    dm228_36 5000 x1 x2 x3 x4 x5 0 0 s1
  else
    some (0, s1)
set_option maxRecDepth 100000 in
theorem dt228_26 {sio : Bool} {tt : Nat} {cc : Nat → Nat → Int32} {d : Nat} (hd : 1 ≤ d) {x1 : Int32} {x2 : Int32} {x3 : Int32} {x4 : Int32} {x5 : Int32} {y1 : Int32} {s : aS} (hl : Ly tt cc s) {o : Int32 × aS} (h : dm228_26  x1 x2 x3 x4 x5 y1 s = some o) : Q 2 sio tt cc d 228 26 [some (.ref 121), some (.int x1), some (.int x2), some (.int x3), some (.int x4), some (.int x5), none, none, none, none, none, none, none] [.int y1, .ref 121] s (.inl (some (.int o.1)), o.2) := by
  unfold dm228_26 at h
  obtain ⟨d, rfl⟩ : ∃ e, d = e + 1 := ⟨d - 1, by omega⟩
  obtain ⟨s1, hs2, h⟩ := nx_so h
  refine Q.pf hs2 rfl (gI_of zm228 (e := (56, 3, .putfield 89, [9, 0, 0])) rfl) (hl.lt (a := 121) (by decide)) (by decide) (hl.T (a := 121) (p := (9, 45)) 43 rfl rfl) (by decide) rfl rfl ?_
  have hl3 : Ly tt cc s1 := by rw [hs2]; exact hl.wId (by decide)
  refine Q.run zm228 1 (i' := 28) (ls' := [some (.ref 121), some (.int x1), some (.int x2), some (.int x3), some (.int x4), some (.int x5), none, none, none, none, none, none, none]) (st' := [.ref 121]) rfl ?_
  refine Q.map (A.gf (gI_of zm228 (e := (60, 3, .getfield 89, [9, 0])) rfl) (hl3.lt (a := 121) (by decide)) (hl3.T (a := 121) (p := (9, 45)) 43 rfl rfl) (by decide) rfl) ?_
  by_cases hc4 : (sI s1 121 0) ≤ 0
  · rw [if_pos hc4] at h
    refine Q.map (A.zT (gI_of zm228 (e := (63, 3, .ifCond .le 5, [32])) rfl) (decide_eq_true hc4)) ?_
    refine Q.run zm228 4 (i' := 36) (ls' := [some (.ref 121), some (.int x1), some (.int x2), some (.int x3), some (.int x4), some (.int x5), some (.int 0), some (.int 0), none, none, none, none, none]) (st' := []) rfl ?_
    exact dt228_36 hd _ hl3  h
  · rw [if_neg hc4] at h
    refine Q.map (A.zF (gI_of zm228 (e := (63, 3, .ifCond .le 5, [32])) rfl) (fun q => hc4 (of_decide_eq_true q))) ?_
    refine Q.run zm228 1 (i' := 31) (ls' := [some (.ref 121), some (.int x1), some (.int x2), some (.int x3), some (.int x4), some (.int x5), none, none, none, none, none, none, none]) (st' := [.int 0]) rfl ?_
    cases h
    exact Q.ret (A.ri zm228 (show zM228.2.2.2.2.2[31]? = some (67, 1, .ireturn, []) from rfl) rfl rfl) hl3
def dm228_23 (x1 : Int32) (x2 : Int32) (x3 : Int32) (x4 : Int32) (x5 : Int32) (s : aS) : Option (Int32 × aS) :=
  dm228_26 x1 x2 x3 x4 x5 2 s
set_option maxRecDepth 100000 in
theorem dt228_23 {sio : Bool} {tt : Nat} {cc : Nat → Nat → Int32} {d : Nat} (hd : 1 ≤ d) {x1 : Int32} {x2 : Int32} {x3 : Int32} {x4 : Int32} {x5 : Int32} {s : aS} (hl : Ly tt cc s) {o : Int32 × aS} (h : dm228_23  x1 x2 x3 x4 x5 s = some o) : Q 2 sio tt cc d 228 23 [some (.ref 121), some (.int x1), some (.int x2), some (.int x3), some (.int x4), some (.int x5), none, none, none, none, none, none, none] [.ref 121] s (.inl (some (.int o.1)), o.2) := by
  unfold dm228_23 at h
  obtain ⟨d, rfl⟩ : ∃ e, d = e + 1 := ⟨d - 1, by omega⟩
  refine Q.run zm228 2 (i' := 26) (ls' := [some (.ref 121), some (.int x1), some (.int x2), some (.int x3), some (.int x4), some (.int x5), none, none, none, none, none, none, none]) (st' := [.int 2, .ref 121]) rfl ?_
  exact dt228_26 hd hl  h
def dm228_5 (x1 : Int32) (x2 : Int32) (x3 : Int32) (x4 : Int32) (y0 : Int32) (s : aS) : Option (Int32 × aS) :=
  bu (dm181 x1 s) fun r3 =>
  if r3 = 0 then
    bu (dm227 x3 y0) fun r7 =>
    if r7 = 0 then
      if x4 < (-1048576) then
        dm228_23 x1 x2 x3 x4 y0 s
      else
        if x4 ≤ 1048576 then
          dm228_26 x1 x2 x3 x4 y0 0 s
        else
          dm228_23 x1 x2 x3 x4 y0 s
    else
      dm228_23 x1 x2 x3 x4 y0 s
  else
    dm228_26 x1 x2 x3 x4 y0 1 s
set_option maxRecDepth 100000 in
theorem dt228_5 {sio : Bool} {tt : Nat} {cc : Nat → Nat → Int32} {d : Nat} (hd : 1 ≤ d) {x1 : Int32} {x2 : Int32} {x3 : Int32} {x4 : Int32} {y0 : Int32} {s : aS} (hl : Ly tt cc s) {o : Int32 × aS} (h : dm228_5  x1 x2 x3 x4 y0 s = some o) : Q 2 sio tt cc d 228 5 [some (.ref 121), some (.int x1), some (.int x2), some (.int x3), some (.int x4), none, none, none, none, none, none, none, none] [.int y0] s (.inl (some (.int o.1)), o.2) := by
  unfold dm228_5 at h
  obtain ⟨d, rfl⟩ : ∃ e, d = e + 1 := ⟨d - 1, by omega⟩
  refine Q.run zm228 4 (i' := 9) (ls' := [some (.ref 121), some (.int x1), some (.int x2), some (.int x3), some (.int x4), some (.int y0), none, none, none, none, none, none, none]) (st' := [.int x1, .ref 121, .ref 121]) rfl ?_
  obtain ⟨r3, hc2, h⟩ := bu_so h
  have hq1 : Q 2 sio tt cc d 181 0 [some (.ref 121), some (.int x1)] [] s (.inl (some (.int r3)), s) := dt181 (by omega) hl  hc2
  refine Q.callI (gC_vi zm228 (show zM228.2.2.2.2.2[9]? = some (17, 3, .invokevirtual 128, [0, 181, 1, 9]) from rfl) zm181 (hl.lt (a := 121) (by decide)) (hl.T (a := 121) (p := (9, 45)) 43 rfl rfl) rfl (show aCr 1 121 [.int x1, .ref 121, .ref 121] 2 = some ([some (.ref 121), some (.int x1)], [.ref 121]) from rfl)) hq1 ?_
  by_cases hc4 : r3 = 0
  · rw [if_pos hc4] at h
    refine Q.map (A.zT (gI_of zm228 (e := (20, 3, .ifCond .eq 7, [13])) rfl) (decide_eq_true hc4)) ?_
    refine Q.run zm228 2 (i' := 15) (ls' := [some (.ref 121), some (.int x1), some (.int x2), some (.int x3), some (.int x4), some (.int y0), none, none, none, none, none, none, none]) (st' := [.int y0, .int x3, .ref 121]) rfl ?_
    obtain ⟨r7, hc6, h⟩ := bu_so h
    have hq5 : Q 2 sio tt cc d 227 0 [some (.int x3), some (.int y0)] [] s (.inl (some (.int r7)), s) := dt227 (by omega) hl  hc6
    refine Q.callI (gC_st zm228 (show zM228.2.2.2.2.2[15]? = some (30, 3, .invokestatic 317, [0, 227, 2]) from rfl) zm227 (show aC 2 [.int y0, .int x3, .ref 121] 2 = some ([some (.int x3), some (.int y0)], [.ref 121]) from rfl)) hq5 ?_
    by_cases hc8 : r7 = 0
    · rw [if_pos hc8] at h
      refine Q.map (A.zF (gI_of zm228 (e := (33, 3, .ifCond .ne 18, [23])) rfl) (fun q => of_decide_eq_true q hc8)) ?_
      refine Q.run zm228 2 (i' := 19) (ls' := [some (.ref 121), some (.int x1), some (.int x2), some (.int x3), some (.int x4), some (.int y0), none, none, none, none, none, none, none]) (st' := [.int (-1048576), .int x4, .ref 121]) rfl ?_
      by_cases hc9 : x4 < (-1048576)
      · rw [if_pos hc9] at h
        refine Q.map (A.bT (gI_of zm228 (e := (41, 3, .if_icmp .lt 10, [23])) rfl) (decide_eq_true hc9)) ?_
        exact dt228_23 hd hl  h
      · rw [if_neg hc9] at h
        refine Q.map (A.bF (gI_of zm228 (e := (41, 3, .if_icmp .lt 10, [23])) rfl) (fun q => hc9 (of_decide_eq_true q))) ?_
        refine Q.run zm228 2 (i' := 22) (ls' := [some (.ref 121), some (.int x1), some (.int x2), some (.int x3), some (.int x4), some (.int y0), none, none, none, none, none, none, none]) (st' := [.int 1048576, .int x4, .ref 121]) rfl ?_
        by_cases hc10 : x4 ≤ 1048576
        · rw [if_pos hc10] at h
          refine Q.map (A.bT (gI_of zm228 (e := (48, 3, .if_icmp .le 7, [25])) rfl) (decide_eq_true hc10)) ?_
          refine Q.run zm228 1 (i' := 26) (ls' := [some (.ref 121), some (.int x1), some (.int x2), some (.int x3), some (.int x4), some (.int y0), none, none, none, none, none, none, none]) (st' := [.int 0, .ref 121]) rfl ?_
          exact dt228_26 hd hl  h
        · rw [if_neg hc10] at h
          refine Q.map (A.bF (gI_of zm228 (e := (48, 3, .if_icmp .le 7, [25])) rfl) (fun q => hc10 (of_decide_eq_true q))) ?_
          exact dt228_23 hd hl  h
    · rw [if_neg hc8] at h
      refine Q.map (A.zT (gI_of zm228 (e := (33, 3, .ifCond .ne 18, [23])) rfl) (decide_eq_true hc8)) ?_
      exact dt228_23 hd hl  h
  · rw [if_neg hc4] at h
    refine Q.map (A.zF (gI_of zm228 (e := (20, 3, .ifCond .eq 7, [13])) rfl) (fun q => hc4 (of_decide_eq_true q))) ?_
    refine Q.run zm228 2 (i' := 26) (ls' := [some (.ref 121), some (.int x1), some (.int x2), some (.int x3), some (.int x4), some (.int y0), none, none, none, none, none, none, none]) (st' := [.int 1, .ref 121]) rfl ?_
    exact dt228_26 hd hl  h
def dm228 (x1 : Int32) (x2 : Int32) (x3 : Int32) (x4 : Int32) (s : aS) : Option (Int32 × aS) :=
  if x2 = 0 then
    dm228_5 x1 x2 x3 x4 16384 s
  else
    dm228_5 x1 x2 x3 x4 1048576 s
set_option maxRecDepth 100000 in
theorem dt228 {sio : Bool} {tt : Nat} {cc : Nat → Nat → Int32} {d : Nat} (hd : 1 ≤ d) {x1 : Int32} {x2 : Int32} {x3 : Int32} {x4 : Int32} {s : aS} (hl : Ly tt cc s) {o : Int32 × aS} (h : dm228  x1 x2 x3 x4 s = some o) : Q 2 sio tt cc d 228 0 [some (.ref 121), some (.int x1), some (.int x2), some (.int x3), some (.int x4), none, none, none, none, none, none, none, none] [] s (.inl (some (.int o.1)), o.2) := by
  unfold dm228 at h
  obtain ⟨d, rfl⟩ : ∃ e, d = e + 1 := ⟨d - 1, by omega⟩
  refine Q.run zm228 1 (i' := 1) (ls' := [some (.ref 121), some (.int x1), some (.int x2), some (.int x3), some (.int x4), none, none, none, none, none, none, none, none]) (st' := [.int x2]) rfl ?_
  by_cases hc1 : x2 = 0
  · rw [if_pos hc1] at h
    refine Q.map (A.zT (gI_of zm228 (e := (1, 3, .ifCond .eq 8, [4])) rfl) (decide_eq_true hc1)) ?_
    refine Q.run zm228 1 (i' := 5) (ls' := [some (.ref 121), some (.int x1), some (.int x2), some (.int x3), some (.int x4), none, none, none, none, none, none, none, none]) (st' := [.int 16384]) rfl ?_
    exact dt228_5 hd hl  h
  · rw [if_neg hc1] at h
    refine Q.map (A.zF (gI_of zm228 (e := (1, 3, .ifCond .eq 8, [4])) rfl) (fun q => hc1 (of_decide_eq_true q))) ?_
    refine Q.run zm228 2 (i' := 5) (ls' := [some (.ref 121), some (.int x1), some (.int x2), some (.int x3), some (.int x4), none, none, none, none, none, none, none, none]) (st' := [.int 1048576]) rfl ?_
    exact dt228_5 hd hl  h
/-! 137 FormulaTrees.remove(I)V -/
set_option maxRecDepth 100000 in
theorem zm137 : zP[137]? = some zM137 := rfl
def dm137 (x1 : Int32) (s : aS) : Option (xZ × aS) :=
  bu (dm54 x1 s) fun r3 =>
  vN r3 (
    some (.inr 2, nw s 82 0)
  ) fun b5 =>
    if aK s b5 3 then
      if aB x1 8 then
        nx (wI s 101 (jN x1) (-1)) fun s8 =>
        some (.inl none, s8)
      else none
    else none
set_option maxRecDepth 100000 in
theorem dt137 {sio : Bool} {tt : Nat} {cc : Nat → Nat → Int32} {d : Nat} (hd : 9 ≤ d) {x1 : Int32} {s : aS} (hl : Ly tt cc s) {o : xZ × aS} (h : dm137  x1 s = some o) : Q 1 sio tt cc d 137 0 [some (.ref 78), some (.int x1)] [] s o := by
  unfold dm137 at h
  obtain ⟨d, rfl⟩ : ∃ e, d = e + 1 := ⟨d - 1, by omega⟩
  refine Q.run zm137 2 (i' := 2) (ls' := [some (.ref 78), some (.int x1)]) (st' := [.int x1, .ref 78]) rfl ?_
  obtain ⟨r3, hc2, h⟩ := bu_so h
  have hq1 : Q 1 sio tt cc d 54 0 [some (.ref 78), some (.int x1)] [] s (.inl (some r3), s) := dt54 (by omega) hl  hc2
  rcases vN_so h with ⟨hv4, h9⟩ | ⟨b5, hv4, h9⟩
  · clear h
    subst hv4
    have h := h9
    refine Q.callR (gC_vi zm137 (show zM137.2.2.2.2.2[2]? = some (2, 3, .invokevirtual 114, [0, 54, 1, 0]) from rfl) zm54 (hl.lt (a := 78) (by decide)) (hl.T (a := 78) (p := (0, 7)) 0 rfl rfl) rfl (show aCr 1 78 [.int x1, .ref 78] 2 = some ([some (.ref 78), some (.int x1)], []) from rfl)) hq1 ?_
    refine Q.run zm137 1 (i' := 4) (ls' := [some (.ref 78), some (.int x1)]) (st' := []) rfl ?_
    cases h
    exact Q.t zm137 (show zM137.2.2.2.2.2[4]? = some (8, 3, .new 100, [202]) from rfl) rfl rfl hl.gL (by omega) hl
  · clear h
    subst hv4
    have h := h9
    obtain ⟨hr6, h⟩ := ite_so h
    refine Q.callR (gC_vi zm137 (show zM137.2.2.2.2.2[2]? = some (2, 3, .invokevirtual 114, [0, 54, 1, 0]) from rfl) zm54 (hl.lt (a := 78) (by decide)) (hl.T (a := 78) (p := (0, 7)) 0 rfl rfl) rfl (show aCr 1 78 [.int x1, .ref 78] 2 = some ([some (.ref 78), some (.int x1)], []) from rfl)) hq1 ?_
    refine Q.run zm137 2 (i' := 10) (ls' := [some (.ref 78), some (.int x1)]) (st' := [.ref 78]) rfl ?_
    refine Q.map (A.gf (gI_of zm137 (e := (19, 3, .getfield 31, [0, 3])) rfl) (hl.lt (a := 78) (by decide)) (hl.T (a := 78) (p := (0, 7)) 0 rfl rfl) (by decide) (hl.R 3 rfl)) ?_
    refine Q.run zm137 2 (i' := 13) (ls' := [some (.ref 78), some (.int x1)]) (st' := [.int (-1), .int x1, .ref 101]) rfl ?_
    obtain ⟨hc7, h⟩ := ite_so h
    obtain ⟨s8, hs9, h⟩ := nx_so h
    refine Q.is hs9 rfl (gI_of zm137 (e := (24, 1, .iastore, [])) rfl) (hl.lt (a := 101) (by decide)) (by decide) (hl.T (a := 101) (p := (100, 8)) 23 rfl rfl) hc7 ?_
    have hl10 : Ly tt cc s8 := by rw [hs9]; exact hl.wId (by decide)
    have hr11 : aK s8 b5 3 := by rw [hs9]; exact hr6
    cases h
    exact Q.ret (A.rv zm137 (show zM137.2.2.2.2.2[14]? = some (25, 1, .return_, []) from rfl) rfl) hl10
/-! 8 FormulaTreesLaw.remove(LFormulaTrees;I)I -/
set_option maxRecDepth 100000 in
theorem zm8 : zP[8]? = some zM8 := rfl
def dm8 (x1 : Int32) (s : aS) : Option (Int32 × aS) :=
  bv (dm137 x1 s) fun z4 s3 =>
  zN z4 (fun v5 =>
    vV v5 <|
    some (0, s3)
  ) fun e6 =>
    if e6 = 2 then
      some (1, s3)
    else
      none
set_option maxRecDepth 100000 in
theorem dt8 {sio : Bool} {tt : Nat} {cc : Nat → Nat → Int32} {d : Nat} (hd : 10 ≤ d) {x1 : Int32} {s : aS} (hl : Ly tt cc s) {o : Int32 × aS} (h : dm8  x1 s = some o) : Q 1 sio tt cc d 8 0 [some (.ref 78), some (.int x1), none] [] s (.inl (some (.int o.1)), o.2) := by
  unfold dm8 at h
  obtain ⟨d, rfl⟩ : ∃ e, d = e + 1 := ⟨d - 1, by omega⟩
  refine Q.run zm8 2 (i' := 2) (ls' := [some (.ref 78), some (.int x1), none]) (st' := [.int x1, .ref 78]) rfl ?_
  obtain ⟨z4, s3, hc2, h⟩ := bv_so h
  have hq1 : Q 1 sio tt cc d 137 0 [some (.ref 78), some (.int x1)] [] s (z4, s3) := dt137 (by omega) hl  hc2
  rcases zN_so h with ⟨v5, hz8, h8⟩ | ⟨e6, hz8, h8⟩
  · clear h
    subst hz8
    have h := h8
    obtain ⟨hv7, h9⟩ := vV_so h
    clear h
    subst hv7
    have h := h9
    refine Q.callV (gC_vi zm8 (show zM8.2.2.2.2.2[2]? = some (2, 3, .invokevirtual 42, [0, 137, 1, 0]) from rfl) zm137 (hl.lt (a := 78) (by decide)) (hl.T (a := 78) (p := (0, 7)) 0 rfl rfl) rfl (show aCr 1 78 [.int x1, .ref 78] 2 = some ([some (.ref 78), some (.int x1)], []) from rfl)) hq1 ?_
    refine Q.run zm8 2 (i' := 8) (ls' := [some (.ref 78), some (.int x1), none]) (st' := [.int 0]) rfl ?_
    cases h
    exact Q.ret (A.ri zm8 (show zM8.2.2.2.2.2[8]? = some (12, 1, .ireturn, []) from rfl) rfl rfl) hq1.1
  · clear h
    subst hz8
    have h := h8
    by_cases hc9 : e6 = 2
    · rw [if_pos hc9] at h
      subst hc9
      refine Q.hc (gC_vi zm8 (show zM8.2.2.2.2.2[2]? = some (2, 3, .invokevirtual 42, [0, 137, 1, 0]) from rfl) zm137 (hl.lt (a := 78) (by decide)) (hl.T (a := 78) (p := (0, 7)) 0 rfl rfl) rfl (show aCr 1 78 [.int x1, .ref 78] 2 = some ([some (.ref 78), some (.int x1)], []) from rfl)) hq1 (t := 4) rfl ?_
      refine Q.run zm8 2 (i' := 6) (ls' := [some (.ref 78), some (.int x1), some (.ref (sL s3 - 1))]) (st' := [.int 1]) rfl ?_
      cases h
      exact Q.ret (A.ri zm8 (show zM8.2.2.2.2.2[6]? = some (10, 1, .ireturn, []) from rfl) rfl rfl) hq1.1
    · rw [if_neg hc9] at h
      cases h
/-! 231 FormulaTreesModel.remove(I)V -/
set_option maxRecDepth 100000 in
theorem zm231 : zP[231]? = some zM231 := rfl
def dm231_8 (x1 : Int32) (y1 : Int32) (s : aS) : Option (aS) :=
  nx (wI s 121 0 y1) fun s1 =>
  if (sI s1 121 0) = 0 then
    if aB x1 8 then
      nx (wI s1 125 (jN x1) ((0 : Int32) &&& 1)) fun s6 =>
      some s6
    else none
  else
    some s1
set_option maxRecDepth 100000 in
theorem dt231_8 {sio : Bool} {tt : Nat} {cc : Nat → Nat → Int32} {d : Nat} (hd : 1 ≤ d) {x1 : Int32} {y1 : Int32} {s : aS} (hl : Ly tt cc s) {o : aS} (h : dm231_8  x1 y1 s = some o) : Q 2 sio tt cc d 231 8 [some (.ref 121), some (.int x1)] [.int y1, .ref 121] s (.inl none, o) := by
  unfold dm231_8 at h
  obtain ⟨d, rfl⟩ : ∃ e, d = e + 1 := ⟨d - 1, by omega⟩
  obtain ⟨s1, hs2, h⟩ := nx_so h
  refine Q.pf hs2 rfl (gI_of zm231 (e := (14, 3, .putfield 89, [9, 0, 0])) rfl) (hl.lt (a := 121) (by decide)) (by decide) (hl.T (a := 121) (p := (9, 45)) 43 rfl rfl) (by decide) rfl rfl ?_
  have hl3 : Ly tt cc s1 := by rw [hs2]; exact hl.wId (by decide)
  refine Q.run zm231 1 (i' := 10) (ls' := [some (.ref 121), some (.int x1)]) (st' := [.ref 121]) rfl ?_
  refine Q.map (A.gf (gI_of zm231 (e := (18, 3, .getfield 89, [9, 0])) rfl) (hl3.lt (a := 121) (by decide)) (hl3.T (a := 121) (p := (9, 45)) 43 rfl rfl) (by decide) rfl) ?_
  by_cases hc4 : (sI s1 121 0) = 0
  · rw [if_pos hc4] at h
    refine Q.map (A.zF (gI_of zm231 (e := (21, 3, .ifCond .ne 10, [17])) rfl) (fun q => of_decide_eq_true q hc4)) ?_
    refine Q.run zm231 1 (i' := 13) (ls' := [some (.ref 121), some (.int x1)]) (st' := [.ref 121]) rfl ?_
    refine Q.map (A.gf (gI_of zm231 (e := (25, 3, .getfield 19, [9, 6])) rfl) (hl3.lt (a := 121) (by decide)) (hl3.T (a := 121) (p := (9, 45)) 43 rfl rfl) (by decide) (hl3.R 26 rfl)) ?_
    refine Q.run zm231 2 (i' := 16) (ls' := [some (.ref 121), some (.int x1)]) (st' := [.int 0, .int x1, .ref 125]) rfl ?_
    obtain ⟨hc5, h⟩ := ite_so h
    obtain ⟨s6, hs7, h⟩ := nx_so h
    refine Q.bs hs7 rfl (gI_of zm231 (e := (30, 1, .bastore, [])) rfl) (hl3.lt (a := 125) (by decide)) (by decide) (hl3.T (a := 125) (p := (103, 8)) 47 rfl rfl) hc5 ?_
    have hl8 : Ly tt cc s6 := by rw [hs7]; exact hl3.wId (by decide)
    cases h
    exact Q.ret (A.rv zm231 (show zM231.2.2.2.2.2[17]? = some (31, 1, .return_, []) from rfl) rfl) hl8
  · rw [if_neg hc4] at h
    refine Q.map (A.zT (gI_of zm231 (e := (21, 3, .ifCond .ne 10, [17])) rfl) (decide_eq_true hc4)) ?_
    cases h
    exact Q.ret (A.rv zm231 (show zM231.2.2.2.2.2[17]? = some (31, 1, .return_, []) from rfl) rfl) hl3
def dm231 (x1 : Int32) (s : aS) : Option (aS) :=
  bu (dm225 x1 s) fun r3 =>
  if r3 = 0 then
    dm231_8 x1 0 s
  else
    dm231_8 x1 1 s
set_option maxRecDepth 100000 in
theorem dt231 {sio : Bool} {tt : Nat} {cc : Nat → Nat → Int32} {d : Nat} (hd : 1 ≤ d) {x1 : Int32} {s : aS} (hl : Ly tt cc s) {o : aS} (h : dm231  x1 s = some o) : Q 2 sio tt cc d 231 0 [some (.ref 121), some (.int x1)] [] s (.inl none, o) := by
  unfold dm231 at h
  obtain ⟨d, rfl⟩ : ∃ e, d = e + 1 := ⟨d - 1, by omega⟩
  refine Q.run zm231 3 (i' := 3) (ls' := [some (.ref 121), some (.int x1)]) (st' := [.int x1, .ref 121, .ref 121]) rfl ?_
  obtain ⟨r3, hc2, h⟩ := bu_so h
  have hq1 : Q 2 sio tt cc d 225 0 [some (.ref 121), some (.int x1)] [] s (.inl (some (.int r3)), s) := dt225 (by omega) hl  hc2
  refine Q.callI (gC_vi zm231 (show zM231.2.2.2.2.2[3]? = some (3, 3, .invokevirtual 310, [0, 225, 1, 9]) from rfl) zm225 (hl.lt (a := 121) (by decide)) (hl.T (a := 121) (p := (9, 45)) 43 rfl rfl) rfl (show aCr 1 121 [.int x1, .ref 121, .ref 121] 2 = some ([some (.ref 121), some (.int x1)], [.ref 121]) from rfl)) hq1 ?_
  by_cases hc4 : r3 = 0
  · rw [if_pos hc4] at h
    refine Q.map (A.zT (gI_of zm231 (e := (6, 3, .ifCond .eq 7, [7])) rfl) (decide_eq_true hc4)) ?_
    refine Q.run zm231 1 (i' := 8) (ls' := [some (.ref 121), some (.int x1)]) (st' := [.int 0, .ref 121]) rfl ?_
    exact dt231_8 hd hl  h
  · rw [if_neg hc4] at h
    refine Q.map (A.zF (gI_of zm231 (e := (6, 3, .ifCond .eq 7, [7])) rfl) (fun q => hc4 (of_decide_eq_true q))) ?_
    refine Q.run zm231 2 (i' := 8) (ls' := [some (.ref 121), some (.int x1)]) (st' := [.int 1, .ref 121]) rfl ?_
    exact dt231_8 hd hl  h
/-! 141 FormulaTrees$Writer.write(I)V -/
set_option maxRecDepth 100000 in
theorem zm141 : zP[141]? = some zM141 := rfl
def dm141_8 (s : aS) : Option (aS) :=
  nx (wI s 117 8 ((sI s 117 8) + 1)) fun s1 =>
  some s1
set_option maxRecDepth 100000 in
theorem dt141_8 {sio : Bool} {tt : Nat} {cc : Nat → Nat → Int32} {d : Nat} (hd : 0 ≤ d) {x1 : Int32} {s : aS} (hl : Ly tt cc s) {o : aS} (h : dm141_8  s = some o) : Q 1 sio tt cc d 141 8 [some (.ref 117), some (.int x1)] [] s (.inl none, o) := by
  unfold dm141_8 at h
  refine Q.run zm141 2 (i' := 10) (ls' := [some (.ref 117), some (.int x1)]) (st' := [.ref 117, .ref 117]) rfl ?_
  refine Q.map (A.gf (gI_of zm141 (e := (18, 3, .getfield 37, [8, 8])) rfl) (hl.lt (a := 117) (by decide)) (hl.T (a := 117) (p := (8, 11)) 39 rfl rfl) (by decide) rfl) ?_
  refine Q.run zm141 2 (i' := 13) (ls' := [some (.ref 117), some (.int x1)]) (st' := [.int ((sI s 117 8) + 1), .ref 117]) rfl ?_
  obtain ⟨s1, hs2, h⟩ := nx_so h
  refine Q.pf hs2 rfl (gI_of zm141 (e := (23, 3, .putfield 37, [8, 8, 0])) rfl) (hl.lt (a := 117) (by decide)) (by decide) (hl.T (a := 117) (p := (8, 11)) 39 rfl rfl) (by decide) rfl rfl ?_
  have hl3 : Ly tt cc s1 := by rw [hs2]; exact hl.wId (by decide)
  cases h
  exact Q.ret (A.rv zm141 (show zM141.2.2.2.2.2[14]? = some (26, 1, .return_, []) from rfl) rfl) hl3
def dm141 (x1 : Int32) (s : aS) : Option (aS) :=
  if (sI s 117 8) = (sI s 117 9) then
    nx (wI s 117 10 x1) fun s2 =>
    dm141_8 s2
  else
    dm141_8 s
set_option maxRecDepth 100000 in
theorem dt141 {sio : Bool} {tt : Nat} {cc : Nat → Nat → Int32} {d : Nat} (hd : 0 ≤ d) {x1 : Int32} {s : aS} (hl : Ly tt cc s) {o : aS} (h : dm141  x1 s = some o) : Q 1 sio tt cc d 141 0 [some (.ref 117), some (.int x1)] [] s (.inl none, o) := by
  unfold dm141 at h
  refine Q.run zm141 1 (i' := 1) (ls' := [some (.ref 117), some (.int x1)]) (st' := [.ref 117]) rfl ?_
  refine Q.map (A.gf (gI_of zm141 (e := (1, 3, .getfield 37, [8, 8])) rfl) (hl.lt (a := 117) (by decide)) (hl.T (a := 117) (p := (8, 11)) 39 rfl rfl) (by decide) rfl) ?_
  refine Q.run zm141 1 (i' := 3) (ls' := [some (.ref 117), some (.int x1)]) (st' := [.ref 117, .int (sI s 117 8)]) rfl ?_
  refine Q.map (A.gf (gI_of zm141 (e := (5, 3, .getfield 40, [8, 9])) rfl) (hl.lt (a := 117) (by decide)) (hl.T (a := 117) (p := (8, 11)) 39 rfl rfl) (by decide) rfl) ?_
  by_cases hc1 : (sI s 117 8) = (sI s 117 9)
  · rw [if_pos hc1] at h
    refine Q.map (A.bF (gI_of zm141 (e := (8, 3, .if_icmp .ne 8, [8])) rfl) (fun q => of_decide_eq_true q hc1)) ?_
    refine Q.run zm141 2 (i' := 7) (ls' := [some (.ref 117), some (.int x1)]) (st' := [.int x1, .ref 117]) rfl ?_
    obtain ⟨s2, hs3, h⟩ := nx_so h
    refine Q.pf hs3 rfl (gI_of zm141 (e := (13, 3, .putfield 43, [8, 10, 0])) rfl) (hl.lt (a := 117) (by decide)) (by decide) (hl.T (a := 117) (p := (8, 11)) 39 rfl rfl) (by decide) rfl rfl ?_
    have hl4 : Ly tt cc s2 := by rw [hs3]; exact hl.wId (by decide)
    exact dt141_8 hd hl4  h
  · rw [if_neg hc1] at h
    refine Q.map (A.bT (gI_of zm141 (e := (8, 3, .if_icmp .ne 8, [8])) rfl) (decide_eq_true hc1)) ?_
    exact dt141_8 hd hl  h
/-! 140 FormulaTrees$Writer.begin(Z)V -/
set_option maxRecDepth 100000 in
theorem zm140 : zP[140]? = some zM140 := rfl
def dm140_24 (x1 : Int32) (s : aS) : Option (aS) :=
  if aB (sI s 117 4) 128 then
    nx (wI s 118 (jN (sI s 117 4)) (sI s 117 6)) fun s2 =>
    if aB (sI s2 117 4) 128 then
      nx (wI s2 119 (jN (sI s2 117 4)) 0) fun s6 =>
      if aB (sI s6 117 4) 128 then
        nx (wI s6 120 (jN (sI s6 117 4)) (x1 &&& 1)) fun s10 =>
        nx (wI s10 117 4 ((sI s10 117 4) + 1)) fun s13 =>
        nx (wI s13 117 6 ((sI s13 117 6) + 1)) fun s16 =>
        nx (wI s16 117 7 1) fun s19 =>
        some s19
      else none
    else none
  else none
set_option maxRecDepth 100000 in
theorem dt140_24 {sio : Bool} {tt : Nat} {cc : Nat → Nat → Int32} {d : Nat} (hd : 1 ≤ d) {x1 : Int32} {s : aS} (hl : Ly tt cc s) {o : aS} (h : dm140_24  x1 s = some o) : Q 1 sio tt cc d 140 24 [some (.ref 117), some (.int x1)] [] s (.inl none, o) := by
  unfold dm140_24 at h
  obtain ⟨d, rfl⟩ : ∃ e, d = e + 1 := ⟨d - 1, by omega⟩
  refine Q.run zm140 1 (i' := 25) (ls' := [some (.ref 117), some (.int x1)]) (st' := [.ref 117]) rfl ?_
  refine Q.map (A.gf (gI_of zm140 (e := (44, 3, .getfield 9, [8, 1])) rfl) (hl.lt (a := 117) (by decide)) (hl.T (a := 117) (p := (8, 11)) 39 rfl rfl) (by decide) (hl.R 20 rfl)) ?_
  refine Q.run zm140 1 (i' := 27) (ls' := [some (.ref 117), some (.int x1)]) (st' := [.ref 117, .ref 118]) rfl ?_
  refine Q.map (A.gf (gI_of zm140 (e := (48, 3, .getfield 30, [8, 4])) rfl) (hl.lt (a := 117) (by decide)) (hl.T (a := 117) (p := (8, 11)) 39 rfl rfl) (by decide) rfl) ?_
  refine Q.run zm140 1 (i' := 29) (ls' := [some (.ref 117), some (.int x1)]) (st' := [.ref 117, .int (sI s 117 4), .ref 118]) rfl ?_
  refine Q.map (A.gf (gI_of zm140 (e := (52, 3, .getfield 34, [8, 6])) rfl) (hl.lt (a := 117) (by decide)) (hl.T (a := 117) (p := (8, 11)) 39 rfl rfl) (by decide) rfl) ?_
  obtain ⟨hc1, h⟩ := ite_so h
  obtain ⟨s2, hs3, h⟩ := nx_so h
  refine Q.is hs3 rfl (gI_of zm140 (e := (55, 1, .iastore, [])) rfl) (hl.lt (a := 118) (by decide)) (by decide) (hl.T (a := 118) (p := (100, 128)) 40 rfl rfl) hc1 ?_
  have hl4 : Ly tt cc s2 := by rw [hs3]; exact hl.wId (by decide)
  refine Q.run zm140 1 (i' := 32) (ls' := [some (.ref 117), some (.int x1)]) (st' := [.ref 117]) rfl ?_
  refine Q.map (A.gf (gI_of zm140 (e := (57, 3, .getfield 15, [8, 2])) rfl) (hl4.lt (a := 117) (by decide)) (hl4.T (a := 117) (p := (8, 11)) 39 rfl rfl) (by decide) (hl4.R 21 rfl)) ?_
  refine Q.run zm140 1 (i' := 34) (ls' := [some (.ref 117), some (.int x1)]) (st' := [.ref 117, .ref 119]) rfl ?_
  refine Q.map (A.gf (gI_of zm140 (e := (61, 3, .getfield 30, [8, 4])) rfl) (hl4.lt (a := 117) (by decide)) (hl4.T (a := 117) (p := (8, 11)) 39 rfl rfl) (by decide) rfl) ?_
  refine Q.run zm140 1 (i' := 36) (ls' := [some (.ref 117), some (.int x1)]) (st' := [.int 0, .int (sI s2 117 4), .ref 119]) rfl ?_
  obtain ⟨hc5, h⟩ := ite_so h
  obtain ⟨s6, hs7, h⟩ := nx_so h
  refine Q.is hs7 rfl (gI_of zm140 (e := (65, 1, .iastore, [])) rfl) (hl4.lt (a := 119) (by decide)) (by decide) (hl4.T (a := 119) (p := (100, 128)) 41 rfl rfl) hc5 ?_
  have hl8 : Ly tt cc s6 := by rw [hs7]; exact hl4.wId (by decide)
  refine Q.run zm140 1 (i' := 38) (ls' := [some (.ref 117), some (.int x1)]) (st' := [.ref 117]) rfl ?_
  refine Q.map (A.gf (gI_of zm140 (e := (67, 3, .getfield 18, [8, 3])) rfl) (hl8.lt (a := 117) (by decide)) (hl8.T (a := 117) (p := (8, 11)) 39 rfl rfl) (by decide) (hl8.R 22 rfl)) ?_
  refine Q.run zm140 1 (i' := 40) (ls' := [some (.ref 117), some (.int x1)]) (st' := [.ref 117, .ref 120]) rfl ?_
  refine Q.map (A.gf (gI_of zm140 (e := (71, 3, .getfield 30, [8, 4])) rfl) (hl8.lt (a := 117) (by decide)) (hl8.T (a := 117) (p := (8, 11)) 39 rfl rfl) (by decide) rfl) ?_
  refine Q.run zm140 1 (i' := 42) (ls' := [some (.ref 117), some (.int x1)]) (st' := [.int x1, .int (sI s6 117 4), .ref 120]) rfl ?_
  obtain ⟨hc9, h⟩ := ite_so h
  obtain ⟨s10, hs11, h⟩ := nx_so h
  refine Q.bs hs11 rfl (gI_of zm140 (e := (75, 1, .bastore, [])) rfl) (hl8.lt (a := 120) (by decide)) (by decide) (hl8.T (a := 120) (p := (103, 128)) 42 rfl rfl) hc9 ?_
  have hl12 : Ly tt cc s10 := by rw [hs11]; exact hl8.wId (by decide)
  refine Q.run zm140 2 (i' := 45) (ls' := [some (.ref 117), some (.int x1)]) (st' := [.ref 117, .ref 117]) rfl ?_
  refine Q.map (A.gf (gI_of zm140 (e := (78, 3, .getfield 30, [8, 4])) rfl) (hl12.lt (a := 117) (by decide)) (hl12.T (a := 117) (p := (8, 11)) 39 rfl rfl) (by decide) rfl) ?_
  refine Q.run zm140 2 (i' := 48) (ls' := [some (.ref 117), some (.int x1)]) (st' := [.int ((sI s10 117 4) + 1), .ref 117]) rfl ?_
  obtain ⟨s13, hs14, h⟩ := nx_so h
  refine Q.pf hs14 rfl (gI_of zm140 (e := (83, 3, .putfield 30, [8, 4, 0])) rfl) (hl12.lt (a := 117) (by decide)) (by decide) (hl12.T (a := 117) (p := (8, 11)) 39 rfl rfl) (by decide) rfl rfl ?_
  have hl15 : Ly tt cc s13 := by rw [hs14]; exact hl12.wId (by decide)
  refine Q.run zm140 2 (i' := 51) (ls' := [some (.ref 117), some (.int x1)]) (st' := [.ref 117, .ref 117]) rfl ?_
  refine Q.map (A.gf (gI_of zm140 (e := (88, 3, .getfield 34, [8, 6])) rfl) (hl15.lt (a := 117) (by decide)) (hl15.T (a := 117) (p := (8, 11)) 39 rfl rfl) (by decide) rfl) ?_
  refine Q.run zm140 2 (i' := 54) (ls' := [some (.ref 117), some (.int x1)]) (st' := [.int ((sI s13 117 6) + 1), .ref 117]) rfl ?_
  obtain ⟨s16, hs17, h⟩ := nx_so h
  refine Q.pf hs17 rfl (gI_of zm140 (e := (93, 3, .putfield 34, [8, 6, 0])) rfl) (hl15.lt (a := 117) (by decide)) (by decide) (hl15.T (a := 117) (p := (8, 11)) 39 rfl rfl) (by decide) rfl rfl ?_
  have hl18 : Ly tt cc s16 := by rw [hs17]; exact hl15.wId (by decide)
  refine Q.run zm140 2 (i' := 57) (ls' := [some (.ref 117), some (.int x1)]) (st' := [.int 1, .ref 117]) rfl ?_
  obtain ⟨s19, hs20, h⟩ := nx_so h
  refine Q.pf hs20 rfl (gI_of zm140 (e := (98, 3, .putfield 50, [8, 7, 1])) rfl) (hl18.lt (a := 117) (by decide)) (by decide) (hl18.T (a := 117) (p := (8, 11)) 39 rfl rfl) (by decide) rfl rfl ?_
  have hl21 : Ly tt cc s19 := by rw [hs20]; exact hl18.wId (by decide)
  cases h
  exact Q.ret (A.rv zm140 (show zM140.2.2.2.2.2[58]? = some (101, 1, .return_, []) from rfl) rfl) hl21
def dm140_19 (x1 : Int32) (s : aS) : Option (aS) :=
  if x1 = 0 then
    dm140_24 x1 s
  else
    bu (dm141 40 s) fun s4 =>
    dm140_24 x1 s4
set_option maxRecDepth 100000 in
theorem dt140_19 {sio : Bool} {tt : Nat} {cc : Nat → Nat → Int32} {d : Nat} (hd : 1 ≤ d) {x1 : Int32} {s : aS} (hl : Ly tt cc s) {o : aS} (h : dm140_19  x1 s = some o) : Q 1 sio tt cc d 140 19 [some (.ref 117), some (.int x1)] [] s (.inl none, o) := by
  unfold dm140_19 at h
  obtain ⟨d, rfl⟩ : ∃ e, d = e + 1 := ⟨d - 1, by omega⟩
  refine Q.run zm140 1 (i' := 20) (ls' := [some (.ref 117), some (.int x1)]) (st' := [.int x1]) rfl ?_
  by_cases hc1 : x1 = 0
  · rw [if_pos hc1] at h
    refine Q.map (A.zT (gI_of zm140 (e := (34, 3, .ifCond .eq 9, [24])) rfl) (decide_eq_true hc1)) ?_
    exact dt140_24 hd hl  h
  · rw [if_neg hc1] at h
    refine Q.map (A.zF (gI_of zm140 (e := (34, 3, .ifCond .eq 9, [24])) rfl) (fun q => hc1 (of_decide_eq_true q))) ?_
    refine Q.run zm140 2 (i' := 23) (ls' := [some (.ref 117), some (.int x1)]) (st' := [.int 40, .ref 117]) rfl ?_
    obtain ⟨s4, hc3, h⟩ := bu_so h
    have hq2 : Q 1 sio tt cc d 141 0 [some (.ref 117), some (.int 40)] [] s (.inl none, s4) := dt141 (by omega) hl  hc3
    refine Q.callV (gC_vi zm140 (show zM140.2.2.2.2.2[23]? = some (40, 3, .invokevirtual 72, [0, 141, 1, 8]) from rfl) zm141 (hl.lt (a := 117) (by decide)) (hl.T (a := 117) (p := (8, 11)) 39 rfl rfl) rfl (show aCr 1 117 [.int 40, .ref 117] 2 = some ([some (.ref 117), some (.int 40)], []) from rfl)) hq2 ?_
    exact dt140_24 hd hq2.1  h
def dm140 (x1 : Int32) (s : aS) : Option (aS) :=
  if (sI s 117 4) < 128 then
    if (sI s 117 4) ≤ 0 then
      dm140_19 x1 s
    else
      if aB ((sI s 117 4) - 1) 128 then
        if aB ((sI s 117 4) - 1) 128 then
          nx (wI s 119 (jN ((sI s 117 4) - 1)) ((sI s 119 (jN ((sI s 117 4) - 1))) + 1)) fun s5 =>
          dm140_19 x1 s5
        else none
      else none
  else
    some s
set_option maxRecDepth 100000 in
theorem dt140 {sio : Bool} {tt : Nat} {cc : Nat → Nat → Int32} {d : Nat} (hd : 1 ≤ d) {x1 : Int32} {s : aS} (hl : Ly tt cc s) {o : aS} (h : dm140  x1 s = some o) : Q 1 sio tt cc d 140 0 [some (.ref 117), some (.int x1)] [] s (.inl none, o) := by
  unfold dm140 at h
  obtain ⟨d, rfl⟩ : ∃ e, d = e + 1 := ⟨d - 1, by omega⟩
  refine Q.run zm140 1 (i' := 1) (ls' := [some (.ref 117), some (.int x1)]) (st' := [.ref 117]) rfl ?_
  refine Q.map (A.gf (gI_of zm140 (e := (1, 3, .getfield 30, [8, 4])) rfl) (hl.lt (a := 117) (by decide)) (hl.T (a := 117) (p := (8, 11)) 39 rfl rfl) (by decide) rfl) ?_
  refine Q.run zm140 1 (i' := 3) (ls' := [some (.ref 117), some (.int x1)]) (st' := [.int 128, .int (sI s 117 4)]) rfl ?_
  by_cases hc1 : (sI s 117 4) < 128
  · rw [if_pos hc1] at h
    refine Q.map (A.bT (gI_of zm140 (e := (7, 3, .if_icmp .lt 4, [5])) rfl) (decide_eq_true hc1)) ?_
    refine Q.run zm140 1 (i' := 6) (ls' := [some (.ref 117), some (.int x1)]) (st' := [.ref 117]) rfl ?_
    refine Q.map (A.gf (gI_of zm140 (e := (12, 3, .getfield 30, [8, 4])) rfl) (hl.lt (a := 117) (by decide)) (hl.T (a := 117) (p := (8, 11)) 39 rfl rfl) (by decide) rfl) ?_
    by_cases hc2 : (sI s 117 4) ≤ 0
    · rw [if_pos hc2] at h
      refine Q.map (A.zT (gI_of zm140 (e := (15, 3, .ifCond .le 18, [19])) rfl) (decide_eq_true hc2)) ?_
      exact dt140_19 hd hl  h
    · rw [if_neg hc2] at h
      refine Q.map (A.zF (gI_of zm140 (e := (15, 3, .ifCond .le 18, [19])) rfl) (fun q => hc2 (of_decide_eq_true q))) ?_
      refine Q.run zm140 1 (i' := 9) (ls' := [some (.ref 117), some (.int x1)]) (st' := [.ref 117]) rfl ?_
      refine Q.map (A.gf (gI_of zm140 (e := (19, 3, .getfield 15, [8, 2])) rfl) (hl.lt (a := 117) (by decide)) (hl.T (a := 117) (p := (8, 11)) 39 rfl rfl) (by decide) (hl.R 21 rfl)) ?_
      refine Q.run zm140 1 (i' := 11) (ls' := [some (.ref 117), some (.int x1)]) (st' := [.ref 117, .ref 119]) rfl ?_
      refine Q.map (A.gf (gI_of zm140 (e := (23, 3, .getfield 30, [8, 4])) rfl) (hl.lt (a := 117) (by decide)) (hl.T (a := 117) (p := (8, 11)) 39 rfl rfl) (by decide) rfl) ?_
      refine Q.run zm140 3 (i' := 15) (ls' := [some (.ref 117), some (.int x1)]) (st' := [.int ((sI s 117 4) - 1), .ref 119, .int ((sI s 117 4) - 1), .ref 119]) rfl ?_
      obtain ⟨hc3, h⟩ := ite_so h
      refine Q.map (A.ia (gI_of zm140 (e := (29, 1, .iaload, [])) rfl) (hl.lt (a := 119) (by decide)) (hl.T (a := 119) (p := (100, 128)) 41 rfl rfl) hc3) ?_
      refine Q.run zm140 2 (i' := 18) (ls' := [some (.ref 117), some (.int x1)]) (st' := [.int ((sI s 119 (jN ((sI s 117 4) - 1))) + 1), .int ((sI s 117 4) - 1), .ref 119]) rfl ?_
      obtain ⟨hc4, h⟩ := ite_so h
      obtain ⟨s5, hs6, h⟩ := nx_so h
      refine Q.is hs6 rfl (gI_of zm140 (e := (32, 1, .iastore, [])) rfl) (hl.lt (a := 119) (by decide)) (by decide) (hl.T (a := 119) (p := (100, 128)) 41 rfl rfl) hc4 ?_
      have hl7 : Ly tt cc s5 := by rw [hs6]; exact hl.wId (by decide)
      exact dt140_19 hd hl7  h
  · rw [if_neg hc1] at h
    refine Q.map (A.bF (gI_of zm140 (e := (7, 3, .if_icmp .lt 4, [5])) rfl) (fun q => hc1 (of_decide_eq_true q))) ?_
    cases h
    exact Q.ret (A.rv zm140 (show zM140.2.2.2.2.2[4]? = some (10, 1, .return_, []) from rfl) rfl) hl
end
section
/-! 144 FormulaTrees$Tree.letterOf(II)I -/
set_option maxRecDepth 100000 in
theorem zm144 : zP[144]? = some zM144 := rfl
def dm144_11 (b0 : Nat) (x1 : Int32) (x2 : Int32) (y0 : Int32) (s : aS) : Option (Int32) :=
  if y0 = 0 then
    some (-1)
  else
    bu (dm57 b0 x1 9 s) fun r4 =>
    bu (dm34 (b0 + 2) (r4 + x2) s) fun r7 =>
    some r7
set_option maxRecDepth 100000 in
theorem dt144_11 {sio : Bool} {tt : Nat} {cc : Nat → Nat → Int32} {d : Nat} (hd : 1 ≤ d) {b0 : Nat} {x1 : Int32} {x2 : Int32} {y0 : Int32} {s : aS} (hl : Ly tt cc s) (hk_b0 : aK s b0 3) {o : Int32} (h : dm144_11  b0 x1 x2 y0 s = some o) : Q 1 sio tt cc d 144 11 [some (.ref b0), some (.int x1), some (.int x2), none] [.int y0] s (.inl (some (.int o)), s) := by
  unfold dm144_11 at h
  obtain ⟨d, rfl⟩ : ∃ e, d = e + 1 := ⟨d - 1, by omega⟩
  refine Q.run zm144 2 (i' := 13) (ls' := [some (.ref b0), some (.int x1), some (.int x2), some (.int y0)]) (st' := [.int y0]) rfl ?_
  by_cases hc1 : y0 = 0
  · rw [if_pos hc1] at h
    refine Q.map (A.zT (gI_of zm144 (e := (22, 3, .ifCond .eq 22, [24])) rfl) (decide_eq_true hc1)) ?_
    refine Q.run zm144 1 (i' := 25) (ls' := [some (.ref b0), some (.int x1), some (.int x2), some (.int y0)]) (st' := [.int (-1)]) rfl ?_
    cases h
    exact Q.ret (A.ri zm144 (show zM144.2.2.2.2.2[25]? = some (45, 1, .ireturn, []) from rfl) rfl rfl) hl
  · rw [if_neg hc1] at h
    refine Q.map (A.zF (gI_of zm144 (e := (22, 3, .ifCond .eq 22, [24])) rfl) (fun q => hc1 (of_decide_eq_true q))) ?_
    refine Q.run zm144 1 (i' := 15) (ls' := [some (.ref b0), some (.int x1), some (.int x2), some (.int y0)]) (st' := [.ref b0]) rfl ?_
    refine Q.map (A.gf (gI_of zm144 (e := (26, 3, .getfield 20, [3, 1])) rfl) hk_b0.1 (hl.tr hk_b0).1 (by decide) (hl.tr hk_b0).2.2.1) ?_
    refine Q.run zm144 3 (i' := 19) (ls' := [some (.ref b0), some (.int x1), some (.int x2), some (.int y0)]) (st' := [.int 9, .int x1, .ref b0, .ref (b0 + 2)]) rfl ?_
    obtain ⟨r4, hc3, h⟩ := bu_so h
    have hq2 : Q 1 sio tt cc d 57 0 [some (.ref b0), some (.int x1), some (.int 9), none] [] s (.inl (some (.int r4)), s) := dt57 (by omega) hl hk_b0 hc3
    refine Q.callI (gC_vi zm144 (show zM144.2.2.2.2.2[19]? = some (33, 3, .invokevirtual 28, [0, 57, 2, 3]) from rfl) zm57 hk_b0.1 (hl.tr hk_b0).1 rfl (show aCr 2 b0 [.int 9, .int x1, .ref b0, .ref (b0 + 2)] 4 = some ([some (.ref b0), some (.int x1), some (.int 9), none], [.ref (b0 + 2)]) from rfl)) hq2 ?_
    refine Q.run zm144 2 (i' := 22) (ls' := [some (.ref b0), some (.int x1), some (.int x2), some (.int y0)]) (st' := [.int (r4 + x2), .ref (b0 + 2)]) rfl ?_
    obtain ⟨r7, hc6, h⟩ := bu_so h
    have hq5 : Q 1 sio tt cc d 34 0 [some (.ref (b0 + 2)), some (.int (r4 + x2))] [] s (.inl (some (.int r7)), s) := dt34 (by omega) hl (hl.leK hk_b0) hc6
    refine Q.callI (gC_vi zm144 (show zM144.2.2.2.2.2[22]? = some (38, 3, .invokevirtual 32, [0, 34, 1, 1]) from rfl) zm34 (by have := (hl.tr hk_b0).2.2.2.1; omega) (hl.tr hk_b0).2.2.2.2.2.1 rfl (show aCr 1 (b0 + 2) [.int (r4 + x2), .ref (b0 + 2)] 2 = some ([some (.ref (b0 + 2)), some (.int (r4 + x2))], []) from rfl)) hq5 ?_
    refine Q.run zm144 1 (i' := 25) (ls' := [some (.ref b0), some (.int x1), some (.int x2), some (.int y0)]) (st' := [.int r7]) rfl ?_
    cases h
    exact Q.ret (A.ri zm144 (show zM144.2.2.2.2.2[25]? = some (45, 1, .ireturn, []) from rfl) rfl rfl) hl
def dm144_10 (b0 : Nat) (x1 : Int32) (x2 : Int32) (s : aS) : Option (Int32) :=
  dm144_11 b0 x1 x2 0 s
set_option maxRecDepth 100000 in
theorem dt144_10 {sio : Bool} {tt : Nat} {cc : Nat → Nat → Int32} {d : Nat} (hd : 1 ≤ d) {b0 : Nat} {x1 : Int32} {x2 : Int32} {s : aS} (hl : Ly tt cc s) (hk_b0 : aK s b0 3) {o : Int32} (h : dm144_10  b0 x1 x2 s = some o) : Q 1 sio tt cc d 144 10 [some (.ref b0), some (.int x1), some (.int x2), none] [] s (.inl (some (.int o)), s) := by
  unfold dm144_10 at h
  obtain ⟨d, rfl⟩ : ∃ e, d = e + 1 := ⟨d - 1, by omega⟩
  refine Q.run zm144 1 (i' := 11) (ls' := [some (.ref b0), some (.int x1), some (.int x2), none]) (st' := [.int 0]) rfl ?_
  exact dt144_11 hd hl hk_b0 h
def dm144 (b0 : Nat) (x1 : Int32) (x2 : Int32) (s : aS) : Option (Int32) :=
  if x2 < 0 then
    dm144_10 b0 x1 x2 s
  else
    bu (dm57 b0 x1 10 s) fun r4 =>
    if r4 ≤ x2 then
      dm144_10 b0 x1 x2 s
    else
      dm144_11 b0 x1 x2 1 s
set_option maxRecDepth 100000 in
theorem dt144 {sio : Bool} {tt : Nat} {cc : Nat → Nat → Int32} {d : Nat} (hd : 1 ≤ d) {b0 : Nat} {x1 : Int32} {x2 : Int32} {s : aS} (hl : Ly tt cc s) (hk_b0 : aK s b0 3) {o : Int32} (h : dm144  b0 x1 x2 s = some o) : Q 1 sio tt cc d 144 0 [some (.ref b0), some (.int x1), some (.int x2), none] [] s (.inl (some (.int o)), s) := by
  unfold dm144 at h
  obtain ⟨d, rfl⟩ : ∃ e, d = e + 1 := ⟨d - 1, by omega⟩
  refine Q.run zm144 1 (i' := 1) (ls' := [some (.ref b0), some (.int x1), some (.int x2), none]) (st' := [.int x2]) rfl ?_
  by_cases hc1 : x2 < 0
  · rw [if_pos hc1] at h
    refine Q.map (A.zT (gI_of zm144 (e := (1, 3, .ifCond .lt 18, [10])) rfl) (decide_eq_true hc1)) ?_
    exact dt144_10 hd hl hk_b0 h
  · rw [if_neg hc1] at h
    refine Q.map (A.zF (gI_of zm144 (e := (1, 3, .ifCond .lt 18, [10])) rfl) (fun q => hc1 (of_decide_eq_true q))) ?_
    refine Q.run zm144 4 (i' := 6) (ls' := [some (.ref b0), some (.int x1), some (.int x2), none]) (st' := [.int 10, .int x1, .ref b0, .int x2]) rfl ?_
    obtain ⟨r4, hc3, h⟩ := bu_so h
    have hq2 : Q 1 sio tt cc d 57 0 [some (.ref b0), some (.int x1), some (.int 10), none] [] s (.inl (some (.int r4)), s) := dt57 (by omega) hl hk_b0 hc3
    refine Q.callI (gC_vi zm144 (show zM144.2.2.2.2.2[6]? = some (9, 3, .invokevirtual 28, [0, 57, 2, 3]) from rfl) zm57 hk_b0.1 (hl.tr hk_b0).1 rfl (show aCr 2 b0 [.int 10, .int x1, .ref b0, .int x2] 4 = some ([some (.ref b0), some (.int x1), some (.int 10), none], [.int x2]) from rfl)) hq2 ?_
    by_cases hc5 : r4 ≤ x2
    · rw [if_pos hc5] at h
      refine Q.map (A.bT (gI_of zm144 (e := (12, 3, .if_icmp .ge 7, [10])) rfl) (decide_eq_true hc5)) ?_
      exact dt144_10 hd hl hk_b0 h
    · rw [if_neg hc5] at h
      refine Q.map (A.bF (gI_of zm144 (e := (12, 3, .if_icmp .ge 7, [10])) rfl) (fun q => hc5 (of_decide_eq_true q))) ?_
      refine Q.run zm144 2 (i' := 11) (ls' := [some (.ref b0), some (.int x1), some (.int x2), none]) (st' := [.int 1]) rfl ?_
      exact dt144_11 hd hl hk_b0 h
/-! 143 FormulaTrees$Writer.writeLetters(I)V -/
set_option maxRecDepth 100000 in
theorem zm143 : zP[143]? = some zM143 := rfl
def dm143_2 : Nat → Int32 → Int32 → aS → Option (aS)
  | 0, _, _, _ => none
  | n + 1, x1, x2, s =>
    vN (sR s 117 5) (
      none
    ) fun b2 =>
      if aK s b2 3 then
        bu (dm57 b2 x1 10 s) fun r6 =>
        if r6 ≤ x2 then
          some s
        else
          vN (sR s 117 5) (
            none
          ) fun b9 =>
            if aK s b9 3 then
              bu (dm144 b9 x1 x2 s) fun r13 =>
              bu (dm141 r13 s) fun s16 =>
              dm143_2 n x1 (x2 + 1) s16
            else none
      else none
set_option maxRecDepth 100000 in
theorem dt143_2 {sio : Bool} {tt : Nat} {cc : Nat → Nat → Int32} {d : Nat} (hd : 2 ≤ d) : ∀ (n : Nat) {x1 : Int32} {x2 : Int32} {s : aS} (_ : Ly tt cc s) {o : aS} (_ : dm143_2  n x1 x2 s = some o), Q 1 sio tt cc d 143 2 [some (.ref 117), some (.int x1), some (.int x2)] [] s (.inl none, o) := by
  obtain ⟨d, rfl⟩ : ∃ e, d = e + 1 := ⟨d - 1, by omega⟩
  intro n
  induction n with
  | zero => intro x1 x2 s hl o h; rw [dm143_2] at h; cases h
  | succ n ih =>
    intro x1 x2 s hl o h
    rw [dm143_2] at h
    refine Q.run zm143 2 (i' := 4) (ls' := [some (.ref 117), some (.int x1), some (.int x2)]) (st' := [.ref 117, .int x2]) rfl ?_
    rcases vN_so h with ⟨hv1, h⟩ | ⟨b2, hv1, h⟩
    · refine Q.map (A.gf (gI_of zm143 (e := (4, 3, .getfield 26, [8, 5])) rfl) (hl.lt (a := 117) (by decide)) (hl.T (a := 117) (p := (8, 11)) 39 rfl rfl) (by decide) hv1) ?_
      refine Q.run zm143 2 (i' := 7) (ls' := [some (.ref 117), some (.int x1), some (.int x2)]) (st' := [.int 10, .int x1, .null, .int x2]) rfl ?_
      cases h
    · obtain ⟨hr3, h⟩ := ite_so h
      refine Q.map (A.gf (gI_of zm143 (e := (4, 3, .getfield 26, [8, 5])) rfl) (hl.lt (a := 117) (by decide)) (hl.T (a := 117) (p := (8, 11)) 39 rfl rfl) (by decide) hv1) ?_
      refine Q.run zm143 2 (i' := 7) (ls' := [some (.ref 117), some (.int x1), some (.int x2)]) (st' := [.int 10, .int x1, .ref b2, .int x2]) rfl ?_
      obtain ⟨r6, hc5, h⟩ := bu_so h
      have hq4 : Q 1 sio tt cc d 57 0 [some (.ref b2), some (.int x1), some (.int 10), none] [] s (.inl (some (.int r6)), s) := dt57 (by omega) hl hr3 hc5
      refine Q.callI (gC_vi zm143 (show zM143.2.2.2.2.2[7]? = some (10, 3, .invokevirtual 75, [0, 57, 2, 3]) from rfl) zm57 hr3.1 (hl.tr hr3).1 rfl (show aCr 2 b2 [.int 10, .int x1, .ref b2, .int x2] 4 = some ([some (.ref b2), some (.int x1), some (.int 10), none], [.int x2]) from rfl)) hq4 ?_
      by_cases hc7 : r6 ≤ x2
      · rw [if_pos hc7] at h
        refine Q.map (A.bT (gI_of zm143 (e := (13, 3, .if_icmp .ge 22, [18])) rfl) (decide_eq_true hc7)) ?_
        cases h
        exact Q.ret (A.rv zm143 (show zM143.2.2.2.2.2[18]? = some (35, 1, .return_, []) from rfl) rfl) hl
      · rw [if_neg hc7] at h
        refine Q.map (A.bF (gI_of zm143 (e := (13, 3, .if_icmp .ge 22, [18])) rfl) (fun q => hc7 (of_decide_eq_true q))) ?_
        refine Q.run zm143 2 (i' := 11) (ls' := [some (.ref 117), some (.int x1), some (.int x2)]) (st' := [.ref 117, .ref 117]) rfl ?_
        rcases vN_so h with ⟨hv8, h⟩ | ⟨b9, hv8, h⟩
        · refine Q.map (A.gf (gI_of zm143 (e := (18, 3, .getfield 26, [8, 5])) rfl) (hl.lt (a := 117) (by decide)) (hl.T (a := 117) (p := (8, 11)) 39 rfl rfl) (by decide) hv8) ?_
          refine Q.run zm143 2 (i' := 14) (ls' := [some (.ref 117), some (.int x1), some (.int x2)]) (st' := [.int x2, .int x1, .null, .ref 117]) rfl ?_
          cases h
        · obtain ⟨hr10, h⟩ := ite_so h
          refine Q.map (A.gf (gI_of zm143 (e := (18, 3, .getfield 26, [8, 5])) rfl) (hl.lt (a := 117) (by decide)) (hl.T (a := 117) (p := (8, 11)) 39 rfl rfl) (by decide) hv8) ?_
          refine Q.run zm143 2 (i' := 14) (ls' := [some (.ref 117), some (.int x1), some (.int x2)]) (st' := [.int x2, .int x1, .ref b9, .ref 117]) rfl ?_
          obtain ⟨r13, hc12, h⟩ := bu_so h
          have hq11 : Q 1 sio tt cc d 144 0 [some (.ref b9), some (.int x1), some (.int x2), none] [] s (.inl (some (.int r13)), s) := dt144 (by omega) hl hr10 hc12
          refine Q.callI (gC_vi zm143 (show zM143.2.2.2.2.2[14]? = some (23, 3, .invokevirtual 142, [0, 144, 2, 3]) from rfl) zm144 hr10.1 (hl.tr hr10).1 rfl (show aCr 2 b9 [.int x2, .int x1, .ref b9, .ref 117] 4 = some ([some (.ref b9), some (.int x1), some (.int x2), none], [.ref 117]) from rfl)) hq11 ?_
          obtain ⟨s16, hc15, h⟩ := bu_so h
          have hq14 : Q 1 sio tt cc d 141 0 [some (.ref 117), some (.int r13)] [] s (.inl none, s16) := dt141 (by omega) hl  hc15
          refine Q.callV (gC_vi zm143 (show zM143.2.2.2.2.2[15]? = some (26, 3, .invokevirtual 72, [0, 141, 1, 8]) from rfl) zm141 (hl.lt (a := 117) (by decide)) (hl.T (a := 117) (p := (8, 11)) 39 rfl rfl) rfl (show aCr 1 117 [.int r13, .ref 117] 2 = some ([some (.ref 117), some (.int r13)], []) from rfl)) hq14 ?_
          have hr17 : aK s16 b2 3 := hq14.2.1.k hr3
          have hr18 : aK s16 b9 3 := hq14.2.1.k hr10
          refine Q.run zm143 2 (i' := 2) (ls' := [some (.ref 117), some (.int x1), some (.int (x2 + 1))]) (st' := []) rfl ?_
          exact ih hq14.1  h
def dm143 (x1 : Int32) (s : aS) : Option (aS) :=
  dm143_2 5000 x1 0 s
set_option maxRecDepth 100000 in
theorem dt143 {sio : Bool} {tt : Nat} {cc : Nat → Nat → Int32} {d : Nat} (hd : 2 ≤ d) {x1 : Int32} {s : aS} (hl : Ly tt cc s) {o : aS} (h : dm143  x1 s = some o) : Q 1 sio tt cc d 143 0 [some (.ref 117), some (.int x1), none] [] s (.inl none, o) := by
  unfold dm143 at h
  obtain ⟨d, rfl⟩ : ∃ e, d = e + 1 := ⟨d - 1, by omega⟩
  refine Q.run zm143 2 (i' := 2) (ls' := [some (.ref 117), some (.int x1), some (.int 0)]) (st' := []) rfl ?_
  exact dt143_2 hd _ hl  h
/-! 146 FormulaTrees$Writer.writeDoubling(II)V -/
set_option maxRecDepth 100000 in
theorem zm146 : zP[146]? = some zM146 := rfl
def dm146 (x1 : Int32) (x2 : Int32) (s : aS) : Option (aS) :=
  bu (dm141 x1 s) fun s3 =>
  if x1 = x2 then
    bu (dm141 x1 s3) fun s7 =>
    some s7
  else
    some s3
set_option maxRecDepth 100000 in
theorem dt146 {sio : Bool} {tt : Nat} {cc : Nat → Nat → Int32} {d : Nat} (hd : 1 ≤ d) {x1 : Int32} {x2 : Int32} {s : aS} (hl : Ly tt cc s) {o : aS} (h : dm146  x1 x2 s = some o) : Q 1 sio tt cc d 146 0 [some (.ref 117), some (.int x1), some (.int x2)] [] s (.inl none, o) := by
  unfold dm146 at h
  obtain ⟨d, rfl⟩ : ∃ e, d = e + 1 := ⟨d - 1, by omega⟩
  refine Q.run zm146 2 (i' := 2) (ls' := [some (.ref 117), some (.int x1), some (.int x2)]) (st' := [.int x1, .ref 117]) rfl ?_
  obtain ⟨s3, hc2, h⟩ := bu_so h
  have hq1 : Q 1 sio tt cc d 141 0 [some (.ref 117), some (.int x1)] [] s (.inl none, s3) := dt141 (by omega) hl  hc2
  refine Q.callV (gC_vi zm146 (show zM146.2.2.2.2.2[2]? = some (2, 3, .invokevirtual 72, [0, 141, 1, 8]) from rfl) zm141 (hl.lt (a := 117) (by decide)) (hl.T (a := 117) (p := (8, 11)) 39 rfl rfl) rfl (show aCr 1 117 [.int x1, .ref 117] 2 = some ([some (.ref 117), some (.int x1)], []) from rfl)) hq1 ?_
  refine Q.run zm146 2 (i' := 5) (ls' := [some (.ref 117), some (.int x1), some (.int x2)]) (st' := [.int x2, .int x1]) rfl ?_
  by_cases hc4 : x1 = x2
  · rw [if_pos hc4] at h
    refine Q.map (A.bF (gI_of zm146 (e := (7, 3, .if_icmp .ne 8, [9])) rfl) (fun q => of_decide_eq_true q hc4)) ?_
    refine Q.run zm146 2 (i' := 8) (ls' := [some (.ref 117), some (.int x1), some (.int x2)]) (st' := [.int x1, .ref 117]) rfl ?_
    obtain ⟨s7, hc6, h⟩ := bu_so h
    have hq5 : Q 1 sio tt cc d 141 0 [some (.ref 117), some (.int x1)] [] s3 (.inl none, s7) := dt141 (by omega) hq1.1  hc6
    refine Q.callV (gC_vi zm146 (show zM146.2.2.2.2.2[8]? = some (12, 3, .invokevirtual 72, [0, 141, 1, 8]) from rfl) zm141 (hq1.1.lt (a := 117) (by decide)) (hq1.1.T (a := 117) (p := (8, 11)) 39 rfl rfl) rfl (show aCr 1 117 [.int x1, .ref 117] 2 = some ([some (.ref 117), some (.int x1)], []) from rfl)) hq5 ?_
    cases h
    exact Q.ret (A.rv zm146 (show zM146.2.2.2.2.2[9]? = some (15, 1, .return_, []) from rfl) rfl) hq5.1
  · rw [if_neg hc4] at h
    refine Q.map (A.bT (gI_of zm146 (e := (7, 3, .if_icmp .ne 8, [9])) rfl) (decide_eq_true hc4)) ?_
    cases h
    exact Q.ret (A.rv zm146 (show zM146.2.2.2.2.2[9]? = some (15, 1, .return_, []) from rfl) rfl) hq1.1
/-! 145 FormulaTrees$Writer.writeText(I)V -/
set_option maxRecDepth 100000 in
theorem zm145 : zP[145]? = some zM145 := rfl
def dm145_5 : Nat → Int32 → Int32 → aS → Option (aS)
  | 0, _, _, _ => none
  | n + 1, x1, x2, s =>
    vN (sR s 117 5) (
      none
    ) fun b2 =>
      if aK s b2 3 then
        bu (dm57 b2 x1 10 s) fun r6 =>
        if r6 ≤ x2 then
          bu (dm141 34 s) fun s10 =>
          some s10
        else
          vN (sR s 117 5) (
            none
          ) fun b13 =>
            if aK s b13 3 then
              bu (dm144 b13 x1 x2 s) fun r17 =>
              bu (dm146 r17 34 s) fun s20 =>
              dm145_5 n x1 (x2 + 1) s20
            else none
      else none
set_option maxRecDepth 100000 in
theorem dt145_5 {sio : Bool} {tt : Nat} {cc : Nat → Nat → Int32} {d : Nat} (hd : 2 ≤ d) : ∀ (n : Nat) {x1 : Int32} {x2 : Int32} {s : aS} (_ : Ly tt cc s) {o : aS} (_ : dm145_5  n x1 x2 s = some o), Q 1 sio tt cc d 145 5 [some (.ref 117), some (.int x1), some (.int x2)] [] s (.inl none, o) := by
  obtain ⟨d, rfl⟩ : ∃ e, d = e + 1 := ⟨d - 1, by omega⟩
  intro n
  induction n with
  | zero => intro x1 x2 s hl o h; rw [dm145_5] at h; cases h
  | succ n ih =>
    intro x1 x2 s hl o h
    rw [dm145_5] at h
    refine Q.run zm145 2 (i' := 7) (ls' := [some (.ref 117), some (.int x1), some (.int x2)]) (st' := [.ref 117, .int x2]) rfl ?_
    rcases vN_so h with ⟨hv1, h⟩ | ⟨b2, hv1, h⟩
    · refine Q.map (A.gf (gI_of zm145 (e := (10, 3, .getfield 26, [8, 5])) rfl) (hl.lt (a := 117) (by decide)) (hl.T (a := 117) (p := (8, 11)) 39 rfl rfl) (by decide) hv1) ?_
      refine Q.run zm145 2 (i' := 10) (ls' := [some (.ref 117), some (.int x1), some (.int x2)]) (st' := [.int 10, .int x1, .null, .int x2]) rfl ?_
      cases h
    · obtain ⟨hr3, h⟩ := ite_so h
      refine Q.map (A.gf (gI_of zm145 (e := (10, 3, .getfield 26, [8, 5])) rfl) (hl.lt (a := 117) (by decide)) (hl.T (a := 117) (p := (8, 11)) 39 rfl rfl) (by decide) hv1) ?_
      refine Q.run zm145 2 (i' := 10) (ls' := [some (.ref 117), some (.int x1), some (.int x2)]) (st' := [.int 10, .int x1, .ref b2, .int x2]) rfl ?_
      obtain ⟨r6, hc5, h⟩ := bu_so h
      have hq4 : Q 1 sio tt cc d 57 0 [some (.ref b2), some (.int x1), some (.int 10), none] [] s (.inl (some (.int r6)), s) := dt57 (by omega) hl hr3 hc5
      refine Q.callI (gC_vi zm145 (show zM145.2.2.2.2.2[10]? = some (16, 3, .invokevirtual 75, [0, 57, 2, 3]) from rfl) zm57 hr3.1 (hl.tr hr3).1 rfl (show aCr 2 b2 [.int 10, .int x1, .ref b2, .int x2] 4 = some ([some (.ref b2), some (.int x1), some (.int 10), none], [.int x2]) from rfl)) hq4 ?_
      by_cases hc7 : r6 ≤ x2
      · rw [if_pos hc7] at h
        refine Q.map (A.bT (gI_of zm145 (e := (19, 3, .if_icmp .ge 24, [22])) rfl) (decide_eq_true hc7)) ?_
        refine Q.run zm145 2 (i' := 24) (ls' := [some (.ref 117), some (.int x1), some (.int x2)]) (st' := [.int 34, .ref 117]) rfl ?_
        obtain ⟨s10, hc9, h⟩ := bu_so h
        have hq8 : Q 1 sio tt cc d 141 0 [some (.ref 117), some (.int 34)] [] s (.inl none, s10) := dt141 (by omega) hl  hc9
        refine Q.callV (gC_vi zm145 (show zM145.2.2.2.2.2[24]? = some (46, 3, .invokevirtual 72, [0, 141, 1, 8]) from rfl) zm141 (hl.lt (a := 117) (by decide)) (hl.T (a := 117) (p := (8, 11)) 39 rfl rfl) rfl (show aCr 1 117 [.int 34, .ref 117] 2 = some ([some (.ref 117), some (.int 34)], []) from rfl)) hq8 ?_
        have hr11 : aK s10 b2 3 := hq8.2.1.k hr3
        cases h
        exact Q.ret (A.rv zm145 (show zM145.2.2.2.2.2[25]? = some (49, 1, .return_, []) from rfl) rfl) hq8.1
      · rw [if_neg hc7] at h
        refine Q.map (A.bF (gI_of zm145 (e := (19, 3, .if_icmp .ge 24, [22])) rfl) (fun q => hc7 (of_decide_eq_true q))) ?_
        refine Q.run zm145 2 (i' := 14) (ls' := [some (.ref 117), some (.int x1), some (.int x2)]) (st' := [.ref 117, .ref 117]) rfl ?_
        rcases vN_so h with ⟨hv12, h⟩ | ⟨b13, hv12, h⟩
        · refine Q.map (A.gf (gI_of zm145 (e := (24, 3, .getfield 26, [8, 5])) rfl) (hl.lt (a := 117) (by decide)) (hl.T (a := 117) (p := (8, 11)) 39 rfl rfl) (by decide) hv12) ?_
          refine Q.run zm145 2 (i' := 17) (ls' := [some (.ref 117), some (.int x1), some (.int x2)]) (st' := [.int x2, .int x1, .null, .ref 117]) rfl ?_
          cases h
        · obtain ⟨hr14, h⟩ := ite_so h
          refine Q.map (A.gf (gI_of zm145 (e := (24, 3, .getfield 26, [8, 5])) rfl) (hl.lt (a := 117) (by decide)) (hl.T (a := 117) (p := (8, 11)) 39 rfl rfl) (by decide) hv12) ?_
          refine Q.run zm145 2 (i' := 17) (ls' := [some (.ref 117), some (.int x1), some (.int x2)]) (st' := [.int x2, .int x1, .ref b13, .ref 117]) rfl ?_
          obtain ⟨r17, hc16, h⟩ := bu_so h
          have hq15 : Q 1 sio tt cc d 144 0 [some (.ref b13), some (.int x1), some (.int x2), none] [] s (.inl (some (.int r17)), s) := dt144 (by omega) hl hr14 hc16
          refine Q.callI (gC_vi zm145 (show zM145.2.2.2.2.2[17]? = some (29, 3, .invokevirtual 142, [0, 144, 2, 3]) from rfl) zm144 hr14.1 (hl.tr hr14).1 rfl (show aCr 2 b13 [.int x2, .int x1, .ref b13, .ref 117] 4 = some ([some (.ref b13), some (.int x1), some (.int x2), none], [.ref 117]) from rfl)) hq15 ?_
          refine Q.run zm145 1 (i' := 19) (ls' := [some (.ref 117), some (.int x1), some (.int x2)]) (st' := [.int 34, .int r17, .ref 117]) rfl ?_
          obtain ⟨s20, hc19, h⟩ := bu_so h
          have hq18 : Q 1 sio tt cc d 146 0 [some (.ref 117), some (.int r17), some (.int 34)] [] s (.inl none, s20) := dt146 (by omega) hl  hc19
          refine Q.callV (gC_vi zm145 (show zM145.2.2.2.2.2[19]? = some (34, 3, .invokevirtual 145, [0, 146, 2, 8]) from rfl) zm146 (hl.lt (a := 117) (by decide)) (hl.T (a := 117) (p := (8, 11)) 39 rfl rfl) rfl (show aCr 2 117 [.int 34, .int r17, .ref 117] 3 = some ([some (.ref 117), some (.int r17), some (.int 34)], []) from rfl)) hq18 ?_
          have hr21 : aK s20 b2 3 := hq18.2.1.k hr3
          have hr22 : aK s20 b13 3 := hq18.2.1.k hr14
          refine Q.run zm145 2 (i' := 5) (ls' := [some (.ref 117), some (.int x1), some (.int (x2 + 1))]) (st' := []) rfl ?_
          exact ih hq18.1  h
def dm145 (x1 : Int32) (s : aS) : Option (aS) :=
  bu (dm141 34 s) fun s3 =>
  dm145_5 5000 x1 0 s3
set_option maxRecDepth 100000 in
theorem dt145 {sio : Bool} {tt : Nat} {cc : Nat → Nat → Int32} {d : Nat} (hd : 2 ≤ d) {x1 : Int32} {s : aS} (hl : Ly tt cc s) {o : aS} (h : dm145  x1 s = some o) : Q 1 sio tt cc d 145 0 [some (.ref 117), some (.int x1), none] [] s (.inl none, o) := by
  unfold dm145 at h
  obtain ⟨d, rfl⟩ : ∃ e, d = e + 1 := ⟨d - 1, by omega⟩
  refine Q.run zm145 2 (i' := 2) (ls' := [some (.ref 117), some (.int x1), none]) (st' := [.int 34, .ref 117]) rfl ?_
  obtain ⟨s3, hc2, h⟩ := bu_so h
  have hq1 : Q 1 sio tt cc d 141 0 [some (.ref 117), some (.int 34)] [] s (.inl none, s3) := dt141 (by omega) hl  hc2
  refine Q.callV (gC_vi zm145 (show zM145.2.2.2.2.2[2]? = some (3, 3, .invokevirtual 72, [0, 141, 1, 8]) from rfl) zm141 (hl.lt (a := 117) (by decide)) (hl.T (a := 117) (p := (8, 11)) 39 rfl rfl) rfl (show aCr 1 117 [.int 34, .ref 117] 2 = some ([some (.ref 117), some (.int 34)], []) from rfl)) hq1 ?_
  refine Q.run zm145 2 (i' := 5) (ls' := [some (.ref 117), some (.int x1), some (.int 0)]) (st' := []) rfl ?_
  exact dt145_5 hd _ hq1.1  h
/-! 147 FormulaTrees$Writer.writeAll(Ljava/lang/String;)V -/
set_option maxRecDepth 100000 in
theorem zm147 : zP[147]? = some zM147 := rfl
def dm147_2 : Nat → Nat → Int32 → aS → Option (aS)
  | 0, _, _, _ => none
  | n + 1, b1, x2, s =>
    bu (dm254 b1 s) fun r3 =>
    if r3 ≤ x2 then
      some s
    else
      bv (dm259 b1 x2 s) fun r8 s7 =>
      bu (dm141 r8 s7) fun s12 =>
      dm147_2 n b1 (x2 + 1) s12
set_option maxRecDepth 100000 in
theorem dt147_2 {sio : Bool} {tt : Nat} {cc : Nat → Nat → Int32} {d : Nat} (hd : 4 ≤ d) : ∀ (n : Nat) {b1 : Nat} {x2 : Int32} {s : aS} (_ : Ly tt cc s) (_ : aK s b1 70) {o : aS} (_ : dm147_2  n b1 x2 s = some o), Q 1 sio tt cc d 147 2 [some (.ref 117), some (.ref b1), some (.int x2)] [] s (.inl none, o) := by
  obtain ⟨d, rfl⟩ : ∃ e, d = e + 1 := ⟨d - 1, by omega⟩
  intro n
  induction n with
  | zero => intro b1 x2 s hl hk_b1 o h; rw [dm147_2] at h; cases h
  | succ n ih =>
    intro b1 x2 s hl hk_b1 o h
    rw [dm147_2] at h
    refine Q.run zm147 2 (i' := 4) (ls' := [some (.ref 117), some (.ref b1), some (.int x2)]) (st' := [.ref b1, .int x2]) rfl ?_
    obtain ⟨r3, hc2, h⟩ := bu_so h
    have hq1 : Q 1 sio tt cc d 254 0 [some (.ref b1)] [] s (.inl (some (.int r3)), s) := dt254 (by omega) hl hk_b1 hc2
    refine Q.callI (gC_vi zm147 (show zM147.2.2.2.2.2[4]? = some (4, 3, .invokevirtual 62, [0, 254, 0, 70]) from rfl) zm254 hk_b1.1 (hl.tx hk_b1).1 rfl (show aCr 0 b1 [.ref b1, .int x2] 1 = some ([some (.ref b1)], [.int x2]) from rfl)) hq1 ?_
    by_cases hc4 : r3 ≤ x2
    · rw [if_pos hc4] at h
      refine Q.map (A.bT (gI_of zm147 (e := (7, 3, .if_icmp .ge 18, [13])) rfl) (decide_eq_true hc4)) ?_
      cases h
      exact Q.ret (A.rv zm147 (show zM147.2.2.2.2.2[13]? = some (25, 1, .return_, []) from rfl) rfl) hl
    · rw [if_neg hc4] at h
      refine Q.map (A.bF (gI_of zm147 (e := (7, 3, .if_icmp .ge 18, [13])) rfl) (fun q => hc4 (of_decide_eq_true q))) ?_
      refine Q.run zm147 3 (i' := 9) (ls' := [some (.ref 117), some (.ref b1), some (.int x2)]) (st' := [.int x2, .ref b1, .ref 117]) rfl ?_
      obtain ⟨r8, s7, hc6, h⟩ := bv_so h
      have hq5 : Q 1 sio tt cc d 259 0 [some (.ref b1), some (.int x2)] [] s (.inl (some (.int r8)), s7) := dt259 (by omega) hl hk_b1 hc6
      refine Q.callI (gC_vi zm147 (show zM147.2.2.2.2.2[9]? = some (13, 3, .invokevirtual 68, [0, 259, 1, 70]) from rfl) zm259 hk_b1.1 (hl.tx hk_b1).1 rfl (show aCr 1 b1 [.int x2, .ref b1, .ref 117] 2 = some ([some (.ref b1), some (.int x2)], [.ref 117]) from rfl)) hq5 ?_
      have hr9 : aK s7 b1 70 := hq5.2.1.k hk_b1
      obtain ⟨s12, hc11, h⟩ := bu_so h
      have hq10 : Q 1 sio tt cc d 141 0 [some (.ref 117), some (.int r8)] [] s7 (.inl none, s12) := dt141 (by omega) hq5.1  hc11
      refine Q.callV (gC_vi zm147 (show zM147.2.2.2.2.2[10]? = some (16, 3, .invokevirtual 72, [0, 141, 1, 8]) from rfl) zm141 (hq5.1.lt (a := 117) (by decide)) (hq5.1.T (a := 117) (p := (8, 11)) 39 rfl rfl) rfl (show aCr 1 117 [.int r8, .ref 117] 2 = some ([some (.ref 117), some (.int r8)], []) from rfl)) hq10 ?_
      have hr13 : aK s12 b1 70 := hq10.2.1.k hr9
      refine Q.run zm147 2 (i' := 2) (ls' := [some (.ref 117), some (.ref b1), some (.int (x2 + 1))]) (st' := []) rfl ?_
      exact ih hq10.1 hr13 h
def dm147 (b1 : Nat) (s : aS) : Option (aS) :=
  dm147_2 5000 b1 0 s
set_option maxRecDepth 100000 in
theorem dt147 {sio : Bool} {tt : Nat} {cc : Nat → Nat → Int32} {d : Nat} (hd : 4 ≤ d) {b1 : Nat} {s : aS} (hl : Ly tt cc s) (hk_b1 : aK s b1 70) {o : aS} (h : dm147  b1 s = some o) : Q 1 sio tt cc d 147 0 [some (.ref 117), some (.ref b1), none] [] s (.inl none, o) := by
  unfold dm147 at h
  obtain ⟨d, rfl⟩ : ∃ e, d = e + 1 := ⟨d - 1, by omega⟩
  refine Q.run zm147 2 (i' := 2) (ls' := [some (.ref 117), some (.ref b1), some (.int 0)]) (st' := []) rfl ?_
  exact dt147_2 hd _ hl hk_b1 h
/-! 150 FormulaTrees$Sheets.isQuoted(I)Z -/
set_option maxRecDepth 100000 in
theorem zm150 : zP[150]? = some zM150 := rfl
def dm150 (x1 : Int32) (s : aS) : Option (Int32) :=
  bu (dm40 x1 s) fun r3 =>
  if r3 = 0 then
    some 0
  else
    if aB x1 8 then
      if (sI s 83 (jN x1)) = 0 then
        some 0
      else
        some 1
    else none
set_option maxRecDepth 100000 in
theorem dt150 {sio : Bool} {tt : Nat} {cc : Nat → Nat → Int32} {d : Nat} (hd : 1 ≤ d) {x1 : Int32} {s : aS} (hl : Ly tt cc s) {o : Int32} (h : dm150  x1 s = some o) : Q 1 sio tt cc d 150 0 [some (.ref 81), some (.int x1)] [] s (.inl (some (.int o)), s) := by
  unfold dm150 at h
  obtain ⟨d, rfl⟩ : ∃ e, d = e + 1 := ⟨d - 1, by omega⟩
  refine Q.run zm150 2 (i' := 2) (ls' := [some (.ref 81), some (.int x1)]) (st' := [.int x1, .ref 81]) rfl ?_
  obtain ⟨r3, hc2, h⟩ := bu_so h
  have hq1 : Q 1 sio tt cc d 40 0 [some (.ref 81), some (.int x1)] [] s (.inl (some (.int r3)), s) := dt40 (by omega) hl  hc2
  refine Q.callI (gC_vi zm150 (show zM150.2.2.2.2.2[2]? = some (2, 3, .invokevirtual 28, [0, 40, 1, 2]) from rfl) zm40 (hl.lt (a := 81) (by decide)) (hl.T (a := 81) (p := (2, 3)) 3 rfl rfl) rfl (show aCr 1 81 [.int x1, .ref 81] 2 = some ([some (.ref 81), some (.int x1)], []) from rfl)) hq1 ?_
  by_cases hc4 : r3 = 0
  · rw [if_pos hc4] at h
    refine Q.map (A.zT (gI_of zm150 (e := (5, 3, .ifCond .eq 16, [11])) rfl) (decide_eq_true hc4)) ?_
    refine Q.run zm150 1 (i' := 12) (ls' := [some (.ref 81), some (.int x1)]) (st' := [.int 0]) rfl ?_
    cases h
    exact Q.ret (A.ri zm150 (show zM150.2.2.2.2.2[12]? = some (22, 1, .ireturn, []) from rfl) rfl rfl) hl
  · rw [if_neg hc4] at h
    refine Q.map (A.zF (gI_of zm150 (e := (5, 3, .ifCond .eq 16, [11])) rfl) (fun q => hc4 (of_decide_eq_true q))) ?_
    refine Q.run zm150 1 (i' := 5) (ls' := [some (.ref 81), some (.int x1)]) (st' := [.ref 81]) rfl ?_
    refine Q.map (A.gf (gI_of zm150 (e := (9, 3, .getfield 17, [2, 1])) rfl) (hl.lt (a := 81) (by decide)) (hl.T (a := 81) (p := (2, 3)) 3 rfl rfl) (by decide) (hl.R 7 rfl)) ?_
    refine Q.run zm150 1 (i' := 7) (ls' := [some (.ref 81), some (.int x1)]) (st' := [.int x1, .ref 83]) rfl ?_
    obtain ⟨hc5, h⟩ := ite_so h
    refine Q.map (A.ba (gI_of zm150 (e := (13, 1, .baload, [])) rfl) (hl.lt (a := 83) (by decide)) (hl.T (a := 83) (p := (103, 8)) 5 rfl rfl) (by decide) hc5) ?_
    by_cases hc6 : (sI s 83 (jN x1)) = 0
    · rw [if_pos hc6] at h
      refine Q.map (A.zT (gI_of zm150 (e := (14, 3, .ifCond .eq 7, [11])) rfl) (decide_eq_true hc6)) ?_
      refine Q.run zm150 1 (i' := 12) (ls' := [some (.ref 81), some (.int x1)]) (st' := [.int 0]) rfl ?_
      cases h
      exact Q.ret (A.ri zm150 (show zM150.2.2.2.2.2[12]? = some (22, 1, .ireturn, []) from rfl) rfl rfl) hl
    · rw [if_neg hc6] at h
      refine Q.map (A.zF (gI_of zm150 (e := (14, 3, .ifCond .eq 7, [11])) rfl) (fun q => hc6 (of_decide_eq_true q))) ?_
      refine Q.run zm150 2 (i' := 12) (ls' := [some (.ref 81), some (.int x1)]) (st' := [.int 1]) rfl ?_
      cases h
      exact Q.ret (A.ri zm150 (show zM150.2.2.2.2.2[12]? = some (22, 1, .ireturn, []) from rfl) rfl rfl) hl
/-! 151 FormulaTrees$Sheets.nameLetter(II)I -/
set_option maxRecDepth 100000 in
theorem zm151 : zP[151]? = some zM151 := rfl
def dm151 (x1 : Int32) (x2 : Int32) (s : aS) : Option (Int32) :=
  bu (dm40 x1 s) fun r3 =>
  if r3 = 0 then
    some (-1)
  else
    if aB x1 8 then
      bu (dm34 (84 + 2 * jN x1) x2 s) fun r10 =>
      some r10
    else none
set_option maxRecDepth 100000 in
theorem dt151 {sio : Bool} {tt : Nat} {cc : Nat → Nat → Int32} {d : Nat} (hd : 1 ≤ d) {x1 : Int32} {x2 : Int32} {s : aS} (hl : Ly tt cc s) {o : Int32} (h : dm151  x1 x2 s = some o) : Q 1 sio tt cc d 151 0 [some (.ref 81), some (.int x1), some (.int x2)] [] s (.inl (some (.int o)), s) := by
  unfold dm151 at h
  obtain ⟨d, rfl⟩ : ∃ e, d = e + 1 := ⟨d - 1, by omega⟩
  refine Q.run zm151 2 (i' := 2) (ls' := [some (.ref 81), some (.int x1), some (.int x2)]) (st' := [.int x1, .ref 81]) rfl ?_
  obtain ⟨r3, hc2, h⟩ := bu_so h
  have hq1 : Q 1 sio tt cc d 40 0 [some (.ref 81), some (.int x1)] [] s (.inl (some (.int r3)), s) := dt40 (by omega) hl  hc2
  refine Q.callI (gC_vi zm151 (show zM151.2.2.2.2.2[2]? = some (2, 3, .invokevirtual 28, [0, 40, 1, 2]) from rfl) zm40 (hl.lt (a := 81) (by decide)) (hl.T (a := 81) (p := (2, 3)) 3 rfl rfl) rfl (show aCr 1 81 [.int x1, .ref 81] 2 = some ([some (.ref 81), some (.int x1)], []) from rfl)) hq1 ?_
  by_cases hc4 : r3 = 0
  · rw [if_pos hc4] at h
    refine Q.map (A.zT (gI_of zm151 (e := (5, 3, .ifCond .eq 16, [11])) rfl) (decide_eq_true hc4)) ?_
    refine Q.run zm151 1 (i' := 12) (ls' := [some (.ref 81), some (.int x1), some (.int x2)]) (st' := [.int (-1)]) rfl ?_
    cases h
    exact Q.ret (A.ri zm151 (show zM151.2.2.2.2.2[12]? = some (22, 1, .ireturn, []) from rfl) rfl rfl) hl
  · rw [if_neg hc4] at h
    refine Q.map (A.zF (gI_of zm151 (e := (5, 3, .ifCond .eq 16, [11])) rfl) (fun q => hc4 (of_decide_eq_true q))) ?_
    refine Q.run zm151 1 (i' := 5) (ls' := [some (.ref 81), some (.int x1), some (.int x2)]) (st' := [.ref 81]) rfl ?_
    refine Q.map (A.gf (gI_of zm151 (e := (9, 3, .getfield 11, [2, 0])) rfl) (hl.lt (a := 81) (by decide)) (hl.T (a := 81) (p := (2, 3)) 3 rfl rfl) (by decide) (hl.R 6 rfl)) ?_
    refine Q.run zm151 1 (i' := 7) (ls' := [some (.ref 81), some (.int x1), some (.int x2)]) (st' := [.int x1, .ref 82]) rfl ?_
    obtain ⟨hc5, h⟩ := ite_so h
    have hn6 := lay_names hl hc5.2
    refine Q.map (A.aa (gI_of zm151 (e := (13, 1, .aaload, [])) rfl) (hl.lt (a := 82) (by decide)) (hl.T (a := 82) (p := (111, 8)) 4 rfl rfl) (by decide) hc5 hn6.2) ?_
    have hr7 := hn6.1
    refine Q.run zm151 1 (i' := 9) (ls' := [some (.ref 81), some (.int x1), some (.int x2)]) (st' := [.int x2, .ref (84 + 2 * jN x1)]) rfl ?_
    obtain ⟨r10, hc9, h⟩ := bu_so h
    have hq8 : Q 1 sio tt cc d 34 0 [some (.ref (84 + 2 * jN x1)), some (.int x2)] [] s (.inl (some (.int r10)), s) := dt34 (by omega) hl hr7 hc9
    refine Q.callI (gC_vi zm151 (show zM151.2.2.2.2.2[9]? = some (15, 3, .invokevirtual 32, [0, 34, 1, 1]) from rfl) zm34 hr7.1 (hl.le hr7).1 rfl (show aCr 1 (84 + 2 * jN x1) [.int x2, .ref (84 + 2 * jN x1)] 2 = some ([some (.ref (84 + 2 * jN x1)), some (.int x2)], []) from rfl)) hq8 ?_
    refine Q.run zm151 1 (i' := 12) (ls' := [some (.ref 81), some (.int x1), some (.int x2)]) (st' := [.int r10]) rfl ?_
    cases h
    exact Q.ret (A.ri zm151 (show zM151.2.2.2.2.2[12]? = some (22, 1, .ireturn, []) from rfl) rfl rfl) hl
/-! 149 FormulaTrees$Writer.writePrefix(I)V -/
set_option maxRecDepth 100000 in
theorem zm149 : zP[149]? = some zM149 := rfl
def dm149_37 (s : aS) : Option (aS) :=
  bu (dm141 33 s) fun s3 =>
  some s3
set_option maxRecDepth 100000 in
theorem dt149_37 {sio : Bool} {tt : Nat} {cc : Nat → Nat → Int32} {d : Nat} (hd : 2 ≤ d) {x1 : Int32} {x2 : Int32} {x3 : Int32} {s : aS} (hl : Ly tt cc s) {o : aS} (h : dm149_37  s = some o) : Q 1 sio tt cc d 149 37 [some (.ref 117), some (.int x1), some (.int x2), some (.int x3)] [] s (.inl none, o) := by
  unfold dm149_37 at h
  obtain ⟨d, rfl⟩ : ∃ e, d = e + 1 := ⟨d - 1, by omega⟩
  refine Q.run zm149 2 (i' := 39) (ls' := [some (.ref 117), some (.int x1), some (.int x2), some (.int x3)]) (st' := [.int 33, .ref 117]) rfl ?_
  obtain ⟨s3, hc2, h⟩ := bu_so h
  have hq1 : Q 1 sio tt cc d 141 0 [some (.ref 117), some (.int 33)] [] s (.inl none, s3) := dt141 (by omega) hl  hc2
  refine Q.callV (gC_vi zm149 (show zM149.2.2.2.2.2[39]? = some (74, 3, .invokevirtual 72, [0, 141, 1, 8]) from rfl) zm141 (hl.lt (a := 117) (by decide)) (hl.T (a := 117) (p := (8, 11)) 39 rfl rfl) rfl (show aCr 1 117 [.int 33, .ref 117] 2 = some ([some (.ref 117), some (.int 33)], []) from rfl)) hq1 ?_
  cases h
  exact Q.ret (A.rv zm149 (show zM149.2.2.2.2.2[40]? = some (77, 1, .return_, []) from rfl) rfl) hq1.1
def dm149_32 (x2 : Int32) (s : aS) : Option (aS) :=
  if x2 = 0 then
    dm149_37 s
  else
    bu (dm141 39 s) fun s4 =>
    dm149_37 s4
set_option maxRecDepth 100000 in
theorem dt149_32 {sio : Bool} {tt : Nat} {cc : Nat → Nat → Int32} {d : Nat} (hd : 2 ≤ d) {x2 : Int32} {x1 : Int32} {x3 : Int32} {s : aS} (hl : Ly tt cc s) {o : aS} (h : dm149_32  x2 s = some o) : Q 1 sio tt cc d 149 32 [some (.ref 117), some (.int x1), some (.int x2), some (.int x3)] [] s (.inl none, o) := by
  unfold dm149_32 at h
  obtain ⟨d, rfl⟩ : ∃ e, d = e + 1 := ⟨d - 1, by omega⟩
  refine Q.run zm149 1 (i' := 33) (ls' := [some (.ref 117), some (.int x1), some (.int x2), some (.int x3)]) (st' := [.int x2]) rfl ?_
  by_cases hc1 : x2 = 0
  · rw [if_pos hc1] at h
    refine Q.map (A.zT (gI_of zm149 (e := (62, 3, .ifCond .eq 9, [37])) rfl) (decide_eq_true hc1)) ?_
    exact dt149_37 hd hl  h
  · rw [if_neg hc1] at h
    refine Q.map (A.zF (gI_of zm149 (e := (62, 3, .ifCond .eq 9, [37])) rfl) (fun q => hc1 (of_decide_eq_true q))) ?_
    refine Q.run zm149 2 (i' := 36) (ls' := [some (.ref 117), some (.int x1), some (.int x2), some (.int x3)]) (st' := [.int 39, .ref 117]) rfl ?_
    obtain ⟨s4, hc3, h⟩ := bu_so h
    have hq2 : Q 1 sio tt cc d 141 0 [some (.ref 117), some (.int 39)] [] s (.inl none, s4) := dt141 (by omega) hl  hc3
    refine Q.callV (gC_vi zm149 (show zM149.2.2.2.2.2[36]? = some (68, 3, .invokevirtual 72, [0, 141, 1, 8]) from rfl) zm141 (hl.lt (a := 117) (by decide)) (hl.T (a := 117) (p := (8, 11)) 39 rfl rfl) rfl (show aCr 1 117 [.int 39, .ref 117] 2 = some ([some (.ref 117), some (.int 39)], []) from rfl)) hq2 ?_
    exact dt149_37 hd hq2.1  h
def dm149_12 : Nat → Int32 → Int32 → Int32 → aS → Option (aS)
  | 0, _, _, _, _ => none
  | n + 1, x1, x2, x3, s =>
    if 31 ≤ x3 then
      dm149_32 x2 s
    else
      bu (dm151 x1 x3 s) fun r4 =>
      if r4 = (-1) then
        dm149_32 x2 s
      else
        bu (dm151 x1 x3 s) fun r8 =>
        bu (dm146 r8 39 s) fun s11 =>
        dm149_12 n x1 x2 (x3 + 1) s11
set_option maxRecDepth 100000 in
theorem dt149_12 {sio : Bool} {tt : Nat} {cc : Nat → Nat → Int32} {d : Nat} (hd : 2 ≤ d) : ∀ (n : Nat) {x1 : Int32} {x2 : Int32} {x3 : Int32} {s : aS} (_ : Ly tt cc s) {o : aS} (_ : dm149_12  n x1 x2 x3 s = some o), Q 1 sio tt cc d 149 12 [some (.ref 117), some (.int x1), some (.int x2), some (.int x3)] [] s (.inl none, o) := by
  obtain ⟨d, rfl⟩ : ∃ e, d = e + 1 := ⟨d - 1, by omega⟩
  intro n
  induction n with
  | zero => intro x1 x2 x3 s hl o h; rw [dm149_12] at h; cases h
  | succ n ih =>
    intro x1 x2 x3 s hl o h
    rw [dm149_12] at h
    refine Q.run zm149 2 (i' := 14) (ls' := [some (.ref 117), some (.int x1), some (.int x2), some (.int x3)]) (st' := [.int 31, .int x3]) rfl ?_
    by_cases hc1 : 31 ≤ x3
    · rw [if_pos hc1] at h
      refine Q.map (A.bT (gI_of zm149 (e := (24, 3, .if_icmp .ge 37, [32])) rfl) (decide_eq_true hc1)) ?_
      exact dt149_32 hd hl  h
    · rw [if_neg hc1] at h
      refine Q.map (A.bF (gI_of zm149 (e := (24, 3, .if_icmp .ge 37, [32])) rfl) (fun q => hc1 (of_decide_eq_true q))) ?_
      refine Q.run zm149 1 (i' := 16) (ls' := [some (.ref 117), some (.int x1), some (.int x2), some (.int x3)]) (st' := [.ref 117]) rfl ?_
      refine Q.map (A.gf (gI_of zm149 (e := (28, 3, .getfield 22, [8, 0])) rfl) (hl.lt (a := 117) (by decide)) (hl.T (a := 117) (p := (8, 11)) 39 rfl rfl) (by decide) (hl.R 19 rfl)) ?_
      refine Q.run zm149 2 (i' := 19) (ls' := [some (.ref 117), some (.int x1), some (.int x2), some (.int x3)]) (st' := [.int x3, .int x1, .ref 81]) rfl ?_
      obtain ⟨r4, hc3, h⟩ := bu_so h
      have hq2 : Q 1 sio tt cc d 151 0 [some (.ref 81), some (.int x1), some (.int x3)] [] s (.inl (some (.int r4)), s) := dt151 (by omega) hl  hc3
      refine Q.callI (gC_vi zm149 (show zM149.2.2.2.2.2[19]? = some (33, 3, .invokevirtual 161, [0, 151, 2, 2]) from rfl) zm151 (hl.lt (a := 81) (by decide)) (hl.T (a := 81) (p := (2, 3)) 3 rfl rfl) rfl (show aCr 2 81 [.int x3, .int x1, .ref 81] 3 = some ([some (.ref 81), some (.int x1), some (.int x3)], []) from rfl)) hq2 ?_
      refine Q.run zm149 1 (i' := 21) (ls' := [some (.ref 117), some (.int x1), some (.int x2), some (.int x3)]) (st' := [.int (-1), .int r4]) rfl ?_
      by_cases hc5 : r4 = (-1)
      · rw [if_pos hc5] at h
        refine Q.map (A.bT (gI_of zm149 (e := (37, 3, .if_icmp .eq 24, [32])) rfl) (decide_eq_true hc5)) ?_
        exact dt149_32 hd hl  h
      · rw [if_neg hc5] at h
        refine Q.map (A.bF (gI_of zm149 (e := (37, 3, .if_icmp .eq 24, [32])) rfl) (fun q => hc5 (of_decide_eq_true q))) ?_
        refine Q.run zm149 2 (i' := 24) (ls' := [some (.ref 117), some (.int x1), some (.int x2), some (.int x3)]) (st' := [.ref 117, .ref 117]) rfl ?_
        refine Q.map (A.gf (gI_of zm149 (e := (42, 3, .getfield 22, [8, 0])) rfl) (hl.lt (a := 117) (by decide)) (hl.T (a := 117) (p := (8, 11)) 39 rfl rfl) (by decide) (hl.R 19 rfl)) ?_
        refine Q.run zm149 2 (i' := 27) (ls' := [some (.ref 117), some (.int x1), some (.int x2), some (.int x3)]) (st' := [.int x3, .int x1, .ref 81, .ref 117]) rfl ?_
        obtain ⟨r8, hc7, h⟩ := bu_so h
        have hq6 : Q 1 sio tt cc d 151 0 [some (.ref 81), some (.int x1), some (.int x3)] [] s (.inl (some (.int r8)), s) := dt151 (by omega) hl  hc7
        refine Q.callI (gC_vi zm149 (show zM149.2.2.2.2.2[27]? = some (47, 3, .invokevirtual 161, [0, 151, 2, 2]) from rfl) zm151 (hl.lt (a := 81) (by decide)) (hl.T (a := 81) (p := (2, 3)) 3 rfl rfl) rfl (show aCr 2 81 [.int x3, .int x1, .ref 81, .ref 117] 3 = some ([some (.ref 81), some (.int x1), some (.int x3)], [.ref 117]) from rfl)) hq6 ?_
        refine Q.run zm149 1 (i' := 29) (ls' := [some (.ref 117), some (.int x1), some (.int x2), some (.int x3)]) (st' := [.int 39, .int r8, .ref 117]) rfl ?_
        obtain ⟨s11, hc10, h⟩ := bu_so h
        have hq9 : Q 1 sio tt cc d 146 0 [some (.ref 117), some (.int r8), some (.int 39)] [] s (.inl none, s11) := dt146 (by omega) hl  hc10
        refine Q.callV (gC_vi zm149 (show zM149.2.2.2.2.2[29]? = some (52, 3, .invokevirtual 145, [0, 146, 2, 8]) from rfl) zm146 (hl.lt (a := 117) (by decide)) (hl.T (a := 117) (p := (8, 11)) 39 rfl rfl) rfl (show aCr 2 117 [.int 39, .int r8, .ref 117] 3 = some ([some (.ref 117), some (.int r8), some (.int 39)], []) from rfl)) hq9 ?_
        refine Q.run zm149 2 (i' := 12) (ls' := [some (.ref 117), some (.int x1), some (.int x2), some (.int (x3 + 1))]) (st' := []) rfl ?_
        exact ih hq9.1  h
def dm149_10 (x1 : Int32) (x2 : Int32) (s : aS) : Option (aS) :=
  dm149_12 5000 x1 x2 0 s
set_option maxRecDepth 100000 in
theorem dt149_10 {sio : Bool} {tt : Nat} {cc : Nat → Nat → Int32} {d : Nat} (hd : 2 ≤ d) {x1 : Int32} {x2 : Int32} {s : aS} (hl : Ly tt cc s) {o : aS} (h : dm149_10  x1 x2 s = some o) : Q 1 sio tt cc d 149 10 [some (.ref 117), some (.int x1), some (.int x2), none] [] s (.inl none, o) := by
  unfold dm149_10 at h
  obtain ⟨d, rfl⟩ : ∃ e, d = e + 1 := ⟨d - 1, by omega⟩
  refine Q.run zm149 2 (i' := 12) (ls' := [some (.ref 117), some (.int x1), some (.int x2), some (.int 0)]) (st' := []) rfl ?_
  exact dt149_12 hd _ hl  h
def dm149 (x1 : Int32) (s : aS) : Option (aS) :=
  bu (dm150 x1 s) fun r3 =>
  if r3 = 0 then
    dm149_10 x1 r3 s
  else
    bu (dm141 39 s) fun s7 =>
    dm149_10 x1 r3 s7
set_option maxRecDepth 100000 in
theorem dt149 {sio : Bool} {tt : Nat} {cc : Nat → Nat → Int32} {d : Nat} (hd : 2 ≤ d) {x1 : Int32} {s : aS} (hl : Ly tt cc s) {o : aS} (h : dm149  x1 s = some o) : Q 1 sio tt cc d 149 0 [some (.ref 117), some (.int x1), none, none] [] s (.inl none, o) := by
  unfold dm149 at h
  obtain ⟨d, rfl⟩ : ∃ e, d = e + 1 := ⟨d - 1, by omega⟩
  refine Q.run zm149 1 (i' := 1) (ls' := [some (.ref 117), some (.int x1), none, none]) (st' := [.ref 117]) rfl ?_
  refine Q.map (A.gf (gI_of zm149 (e := (1, 3, .getfield 22, [8, 0])) rfl) (hl.lt (a := 117) (by decide)) (hl.T (a := 117) (p := (8, 11)) 39 rfl rfl) (by decide) (hl.R 19 rfl)) ?_
  refine Q.run zm149 1 (i' := 3) (ls' := [some (.ref 117), some (.int x1), none, none]) (st' := [.int x1, .ref 81]) rfl ?_
  obtain ⟨r3, hc2, h⟩ := bu_so h
  have hq1 : Q 1 sio tt cc d 150 0 [some (.ref 81), some (.int x1)] [] s (.inl (some (.int r3)), s) := dt150 (by omega) hl  hc2
  refine Q.callI (gC_vi zm149 (show zM149.2.2.2.2.2[3]? = some (5, 3, .invokevirtual 155, [0, 150, 1, 2]) from rfl) zm150 (hl.lt (a := 81) (by decide)) (hl.T (a := 81) (p := (2, 3)) 3 rfl rfl) rfl (show aCr 1 81 [.int x1, .ref 81] 2 = some ([some (.ref 81), some (.int x1)], []) from rfl)) hq1 ?_
  refine Q.run zm149 2 (i' := 6) (ls' := [some (.ref 117), some (.int x1), some (.int r3), none]) (st' := [.int r3]) rfl ?_
  by_cases hc4 : r3 = 0
  · rw [if_pos hc4] at h
    refine Q.map (A.zT (gI_of zm149 (e := (10, 3, .ifCond .eq 9, [10])) rfl) (decide_eq_true hc4)) ?_
    exact dt149_10 hd hl  h
  · rw [if_neg hc4] at h
    refine Q.map (A.zF (gI_of zm149 (e := (10, 3, .ifCond .eq 9, [10])) rfl) (fun q => hc4 (of_decide_eq_true q))) ?_
    refine Q.run zm149 2 (i' := 9) (ls' := [some (.ref 117), some (.int x1), some (.int r3), none]) (st' := [.int 39, .ref 117]) rfl ?_
    obtain ⟨s7, hc6, h⟩ := bu_so h
    have hq5 : Q 1 sio tt cc d 141 0 [some (.ref 117), some (.int 39)] [] s (.inl none, s7) := dt141 (by omega) hl  hc6
    refine Q.callV (gC_vi zm149 (show zM149.2.2.2.2.2[9]? = some (16, 3, .invokevirtual 72, [0, 141, 1, 8]) from rfl) zm141 (hl.lt (a := 117) (by decide)) (hl.T (a := 117) (p := (8, 11)) 39 rfl rfl) rfl (show aCr 1 117 [.int 39, .ref 117] 2 = some ([some (.ref 117), some (.int 39)], []) from rfl)) hq5 ?_
    exact dt149_10 hd hq5.1  h
/-! 153 FormulaTrees$Writer.writeColumn(I)V -/
set_option maxRecDepth 100000 in
theorem zm153 : zP[153]? = some zM153 := rfl
def dm153_32 (x2 : Int32) (s : aS) : Option (aS) :=
  bu (dm141 (65 + (x2 - x2 / 26 * 26)) s) fun s3 =>
  some s3
set_option maxRecDepth 100000 in
theorem dt153_32 {sio : Bool} {tt : Nat} {cc : Nat → Nat → Int32} {d : Nat} (hd : 1 ≤ d) {x2 : Int32} {x1 : Int32} {s : aS} (hl : Ly tt cc s) {o : aS} (h : dm153_32  x2 s = some o) : Q 1 sio tt cc d 153 32 [some (.ref 117), some (.int x1), some (.int x2)] [] s (.inl none, o) := by
  unfold dm153_32 at h
  obtain ⟨d, rfl⟩ : ∃ e, d = e + 1 := ⟨d - 1, by omega⟩
  refine Q.run zm153 6 (i' := 38) (ls' := [some (.ref 117), some (.int x1), some (.int x2)]) (st' := [.int (65 + (x2 - x2 / 26 * 26)), .ref 117]) rfl ?_
  obtain ⟨s3, hc2, h⟩ := bu_so h
  have hq1 : Q 1 sio tt cc d 141 0 [some (.ref 117), some (.int (65 + (x2 - x2 / 26 * 26)))] [] s (.inl none, s3) := dt141 (by omega) hl  hc2
  refine Q.callV (gC_vi zm153 (show zM153.2.2.2.2.2[38]? = some (61, 3, .invokevirtual 72, [0, 141, 1, 8]) from rfl) zm141 (hl.lt (a := 117) (by decide)) (hl.T (a := 117) (p := (8, 11)) 39 rfl rfl) rfl (show aCr 1 117 [.int (65 + (x2 - x2 / 26 * 26)), .ref 117] 2 = some ([some (.ref 117), some (.int (65 + (x2 - x2 / 26 * 26)))], []) from rfl)) hq1 ?_
  cases h
  exact Q.ret (A.rv zm153 (show zM153.2.2.2.2.2[39]? = some (64, 1, .return_, []) from rfl) rfl) hq1.1
def dm153_18 (x2 : Int32) (s : aS) : Option (aS) :=
  if x2 < 26 then
    dm153_32 x2 s
  else
    bu (dm141 (65 + (((x2 - 26) / 26) - ((x2 - 26) / 26) / 26 * 26)) s) fun s4 =>
    dm153_32 x2 s4
set_option maxRecDepth 100000 in
theorem dt153_18 {sio : Bool} {tt : Nat} {cc : Nat → Nat → Int32} {d : Nat} (hd : 1 ≤ d) {x2 : Int32} {x1 : Int32} {s : aS} (hl : Ly tt cc s) {o : aS} (h : dm153_18  x2 s = some o) : Q 1 sio tt cc d 153 18 [some (.ref 117), some (.int x1), some (.int x2)] [] s (.inl none, o) := by
  unfold dm153_18 at h
  obtain ⟨d, rfl⟩ : ∃ e, d = e + 1 := ⟨d - 1, by omega⟩
  refine Q.run zm153 2 (i' := 20) (ls' := [some (.ref 117), some (.int x1), some (.int x2)]) (st' := [.int 26, .int x2]) rfl ?_
  by_cases hc1 : x2 < 26
  · rw [if_pos hc1] at h
    refine Q.map (A.bT (gI_of zm153 (e := (33, 3, .if_icmp .lt 20, [32])) rfl) (decide_eq_true hc1)) ?_
    exact dt153_32 hd hl  h
  · rw [if_neg hc1] at h
    refine Q.map (A.bF (gI_of zm153 (e := (33, 3, .if_icmp .lt 20, [32])) rfl) (fun q => hc1 (of_decide_eq_true q))) ?_
    refine Q.run zm153 10 (i' := 31) (ls' := [some (.ref 117), some (.int x1), some (.int x2)]) (st' := [.int (65 + (((x2 - 26) / 26) - ((x2 - 26) / 26) / 26 * 26)), .ref 117]) rfl ?_
    obtain ⟨s4, hc3, h⟩ := bu_so h
    have hq2 : Q 1 sio tt cc d 141 0 [some (.ref 117), some (.int (65 + (((x2 - 26) / 26) - ((x2 - 26) / 26) / 26 * 26)))] [] s (.inl none, s4) := dt141 (by omega) hl  hc3
    refine Q.callV (gC_vi zm153 (show zM153.2.2.2.2.2[31]? = some (50, 3, .invokevirtual 72, [0, 141, 1, 8]) from rfl) zm141 (hl.lt (a := 117) (by decide)) (hl.T (a := 117) (p := (8, 11)) 39 rfl rfl) rfl (show aCr 1 117 [.int (65 + (((x2 - 26) / 26) - ((x2 - 26) / 26) / 26 * 26)), .ref 117] 2 = some ([some (.ref 117), some (.int (65 + (((x2 - 26) / 26) - ((x2 - 26) / 26) / 26 * 26)))], []) from rfl)) hq2 ?_
    exact dt153_32 hd hq2.1  h
def dm153 (x1 : Int32) (s : aS) : Option (aS) :=
  if (x1 - 1) < 702 then
    dm153_18 (x1 - 1) s
  else
    bu (dm141 (65 + ((((x1 - 1) - 26) - 676) / 676)) s) fun s4 =>
    dm153_18 (x1 - 1) s4
set_option maxRecDepth 100000 in
theorem dt153 {sio : Bool} {tt : Nat} {cc : Nat → Nat → Int32} {d : Nat} (hd : 1 ≤ d) {x1 : Int32} {s : aS} (hl : Ly tt cc s) {o : aS} (h : dm153  x1 s = some o) : Q 1 sio tt cc d 153 0 [some (.ref 117), some (.int x1), none] [] s (.inl none, o) := by
  unfold dm153 at h
  obtain ⟨d, rfl⟩ : ∃ e, d = e + 1 := ⟨d - 1, by omega⟩
  refine Q.run zm153 6 (i' := 6) (ls' := [some (.ref 117), some (.int x1), some (.int (x1 - 1))]) (st' := [.int 702, .int (x1 - 1)]) rfl ?_
  by_cases hc1 : (x1 - 1) < 702
  · rw [if_pos hc1] at h
    refine Q.map (A.bT (gI_of zm153 (e := (8, 3, .if_icmp .lt 22, [18])) rfl) (decide_eq_true hc1)) ?_
    exact dt153_18 hd hl  h
  · rw [if_neg hc1] at h
    refine Q.map (A.bF (gI_of zm153 (e := (8, 3, .if_icmp .lt 22, [18])) rfl) (fun q => hc1 (of_decide_eq_true q))) ?_
    refine Q.run zm153 10 (i' := 17) (ls' := [some (.ref 117), some (.int x1), some (.int (x1 - 1))]) (st' := [.int (65 + ((((x1 - 1) - 26) - 676) / 676)), .ref 117]) rfl ?_
    obtain ⟨s4, hc3, h⟩ := bu_so h
    have hq2 : Q 1 sio tt cc d 141 0 [some (.ref 117), some (.int (65 + ((((x1 - 1) - 26) - 676) / 676)))] [] s (.inl none, s4) := dt141 (by omega) hl  hc3
    refine Q.callV (gC_vi zm153 (show zM153.2.2.2.2.2[17]? = some (27, 3, .invokevirtual 72, [0, 141, 1, 8]) from rfl) zm141 (hl.lt (a := 117) (by decide)) (hl.T (a := 117) (p := (8, 11)) 39 rfl rfl) rfl (show aCr 1 117 [.int (65 + ((((x1 - 1) - 26) - 676) / 676)), .ref 117] 2 = some ([some (.ref 117), some (.int (65 + ((((x1 - 1) - 26) - 676) / 676)))], []) from rfl)) hq2 ?_
    exact dt153_18 hd hq2.1  h
/-! 154 FormulaTrees$Writer.writeRow(I)V -/
set_option maxRecDepth 100000 in
theorem zm154 : zP[154]? = some zM154 := rfl
def dm154_16 (k2 : Int32 → Int32 → aS → Option (aS)) (x1 : Int32) (x2 : Int32) (s : aS) : Option (aS) :=
  k2 x1 (x2 / 10) s
set_option maxRecDepth 100000 in
theorem dt154_16 {sio : Bool} {tt : Nat} {cc : Nat → Nat → Int32} {d : Nat} (hd : 1 ≤ d) {k2 : Int32 → Int32 → aS → Option (aS)} (hk2 : ∀ {x1 : Int32} {x2 : Int32} {s : aS}, Ly tt cc s → ∀ {o : aS}, k2 x1 x2 s = some o → Q 1 sio tt cc d 154 2 [some (.ref 117), some (.int x1), some (.int x2)] [] s (.inl none, o)) {x1 : Int32} {x2 : Int32} {s : aS} (hl : Ly tt cc s) {o : aS} (h : dm154_16 k2 x1 x2 s = some o) : Q 1 sio tt cc d 154 16 [some (.ref 117), some (.int x1), some (.int x2)] [] s (.inl none, o) := by
  unfold dm154_16 at h
  obtain ⟨d, rfl⟩ : ∃ e, d = e + 1 := ⟨d - 1, by omega⟩
  refine Q.run zm154 5 (i' := 2) (ls' := [some (.ref 117), some (.int x1), some (.int (x2 / 10))]) (st' := []) rfl ?_
  exact hk2 hl  h
def dm154_2 : Nat → Int32 → Int32 → aS → Option (aS)
  | 0, _, _, _ => none
  | n + 1, x1, x2, s =>
    if x2 ≤ 0 then
      some s
    else
      if x1 < x2 then
        dm154_16 (dm154_2 n) x1 x2 s
      else
        if ¬ x2 = 0 then
          bu (dm141 (48 + ((x1 / x2) - (x1 / x2) / 10 * 10)) s) fun s6 =>
          dm154_16 (dm154_2 n) x1 x2 s6
        else none
set_option maxRecDepth 100000 in
theorem dt154_2 {sio : Bool} {tt : Nat} {cc : Nat → Nat → Int32} {d : Nat} (hd : 1 ≤ d) : ∀ (n : Nat) {x1 : Int32} {x2 : Int32} {s : aS} (_ : Ly tt cc s) {o : aS} (_ : dm154_2  n x1 x2 s = some o), Q 1 sio tt cc d 154 2 [some (.ref 117), some (.int x1), some (.int x2)] [] s (.inl none, o) := by
  obtain ⟨d, rfl⟩ : ∃ e, d = e + 1 := ⟨d - 1, by omega⟩
  intro n
  induction n with
  | zero => intro x1 x2 s hl o h; rw [dm154_2] at h; cases h
  | succ n ih =>
    intro x1 x2 s hl o h
    rw [dm154_2] at h
    refine Q.run zm154 1 (i' := 3) (ls' := [some (.ref 117), some (.int x1), some (.int x2)]) (st' := [.int x2]) rfl ?_
    by_cases hc1 : x2 ≤ 0
    · rw [if_pos hc1] at h
      refine Q.map (A.zT (gI_of zm154 (e := (4, 3, .ifCond .le 29, [21])) rfl) (decide_eq_true hc1)) ?_
      cases h
      exact Q.ret (A.rv zm154 (show zM154.2.2.2.2.2[21]? = some (33, 1, .return_, []) from rfl) rfl) hl
    · rw [if_neg hc1] at h
      refine Q.map (A.zF (gI_of zm154 (e := (4, 3, .ifCond .le 29, [21])) rfl) (fun q => hc1 (of_decide_eq_true q))) ?_
      refine Q.run zm154 2 (i' := 6) (ls' := [some (.ref 117), some (.int x1), some (.int x2)]) (st' := [.int x2, .int x1]) rfl ?_
      by_cases hc2 : x1 < x2
      · rw [if_pos hc2] at h
        refine Q.map (A.bT (gI_of zm154 (e := (9, 3, .if_icmp .lt 16, [16])) rfl) (decide_eq_true hc2)) ?_
        exact dt154_16 hd ih hl  h
      · rw [if_neg hc2] at h
        refine Q.map (A.bF (gI_of zm154 (e := (9, 3, .if_icmp .lt 16, [16])) rfl) (fun q => hc2 (of_decide_eq_true q))) ?_
        refine Q.run zm154 4 (i' := 11) (ls' := [some (.ref 117), some (.int x1), some (.int x2)]) (st' := [.int x2, .int x1, .int 48, .ref 117]) rfl ?_
        obtain ⟨hc3, h⟩ := ite_so h
        refine Q.map (A.dv (gI_of zm154 (e := (17, 1, .idiv, [])) rfl) hc3) ?_
        refine Q.run zm154 3 (i' := 15) (ls' := [some (.ref 117), some (.int x1), some (.int x2)]) (st' := [.int (48 + ((x1 / x2) - (x1 / x2) / 10 * 10)), .ref 117]) rfl ?_
        obtain ⟨s6, hc5, h⟩ := bu_so h
        have hq4 : Q 1 sio tt cc d 141 0 [some (.ref 117), some (.int (48 + ((x1 / x2) - (x1 / x2) / 10 * 10)))] [] s (.inl none, s6) := dt141 (by omega) hl  hc5
        refine Q.callV (gC_vi zm154 (show zM154.2.2.2.2.2[15]? = some (22, 3, .invokevirtual 72, [0, 141, 1, 8]) from rfl) zm141 (hl.lt (a := 117) (by decide)) (hl.T (a := 117) (p := (8, 11)) 39 rfl rfl) rfl (show aCr 1 117 [.int (48 + ((x1 / x2) - (x1 / x2) / 10 * 10)), .ref 117] 2 = some ([some (.ref 117), some (.int (48 + ((x1 / x2) - (x1 / x2) / 10 * 10)))], []) from rfl)) hq4 ?_
        exact dt154_16 hd ih hq4.1  h
def dm154 (x1 : Int32) (s : aS) : Option (aS) :=
  dm154_2 5000 x1 1000000 s
set_option maxRecDepth 100000 in
theorem dt154 {sio : Bool} {tt : Nat} {cc : Nat → Nat → Int32} {d : Nat} (hd : 1 ≤ d) {x1 : Int32} {s : aS} (hl : Ly tt cc s) {o : aS} (h : dm154  x1 s = some o) : Q 1 sio tt cc d 154 0 [some (.ref 117), some (.int x1), none] [] s (.inl none, o) := by
  unfold dm154 at h
  obtain ⟨d, rfl⟩ : ∃ e, d = e + 1 := ⟨d - 1, by omega⟩
  refine Q.run zm154 2 (i' := 2) (ls' := [some (.ref 117), some (.int x1), some (.int 1000000)]) (st' := []) rfl ?_
  exact dt154_2 hd _ hl  h
/-! 152 FormulaTrees$Writer.writeCell(III)V -/
set_option maxRecDepth 100000 in
theorem zm152 : zP[152]? = some zM152 := rfl
def dm152_17 (x1 : Int32) (s : aS) : Option (aS) :=
  bu (dm154 x1 s) fun s3 =>
  some s3
set_option maxRecDepth 100000 in
theorem dt152_17 {sio : Bool} {tt : Nat} {cc : Nat → Nat → Int32} {d : Nat} (hd : 2 ≤ d) {x1 : Int32} {x2 : Int32} {x3 : Int32} {s : aS} (hl : Ly tt cc s) {o : aS} (h : dm152_17  x1 s = some o) : Q 1 sio tt cc d 152 17 [some (.ref 117), some (.int x1), some (.int x2), some (.int x3)] [] s (.inl none, o) := by
  unfold dm152_17 at h
  obtain ⟨d, rfl⟩ : ∃ e, d = e + 1 := ⟨d - 1, by omega⟩
  refine Q.run zm152 2 (i' := 19) (ls' := [some (.ref 117), some (.int x1), some (.int x2), some (.int x3)]) (st' := [.int x1, .ref 117]) rfl ?_
  obtain ⟨s3, hc2, h⟩ := bu_so h
  have hq1 : Q 1 sio tt cc d 154 0 [some (.ref 117), some (.int x1), none] [] s (.inl none, s3) := dt154 (by omega) hl  hc2
  refine Q.callV (gC_vi zm152 (show zM152.2.2.2.2.2[19]? = some (31, 3, .invokevirtual 167, [0, 154, 1, 8]) from rfl) zm154 (hl.lt (a := 117) (by decide)) (hl.T (a := 117) (p := (8, 11)) 39 rfl rfl) rfl (show aCr 1 117 [.int x1, .ref 117] 3 = some ([some (.ref 117), some (.int x1), none], []) from rfl)) hq1 ?_
  cases h
  exact Q.ret (A.rv zm152 (show zM152.2.2.2.2.2[20]? = some (34, 1, .return_, []) from rfl) rfl) hq1.1
def dm152_7 (x1 : Int32) (x2 : Int32) (x3 : Int32) (s : aS) : Option (aS) :=
  bu (dm153 x2 s) fun s3 =>
  if (x3 &&& 1) = 0 then
    dm152_17 x1 s3
  else
    bu (dm141 36 s3) fun s7 =>
    dm152_17 x1 s7
set_option maxRecDepth 100000 in
theorem dt152_7 {sio : Bool} {tt : Nat} {cc : Nat → Nat → Int32} {d : Nat} (hd : 2 ≤ d) {x1 : Int32} {x2 : Int32} {x3 : Int32} {s : aS} (hl : Ly tt cc s) {o : aS} (h : dm152_7  x1 x2 x3 s = some o) : Q 1 sio tt cc d 152 7 [some (.ref 117), some (.int x1), some (.int x2), some (.int x3)] [] s (.inl none, o) := by
  unfold dm152_7 at h
  obtain ⟨d, rfl⟩ : ∃ e, d = e + 1 := ⟨d - 1, by omega⟩
  refine Q.run zm152 2 (i' := 9) (ls' := [some (.ref 117), some (.int x1), some (.int x2), some (.int x3)]) (st' := [.int x2, .ref 117]) rfl ?_
  obtain ⟨s3, hc2, h⟩ := bu_so h
  have hq1 : Q 1 sio tt cc d 153 0 [some (.ref 117), some (.int x2), none] [] s (.inl none, s3) := dt153 (by omega) hl  hc2
  refine Q.callV (gC_vi zm152 (show zM152.2.2.2.2.2[9]? = some (14, 3, .invokevirtual 164, [0, 153, 1, 8]) from rfl) zm153 (hl.lt (a := 117) (by decide)) (hl.T (a := 117) (p := (8, 11)) 39 rfl rfl) rfl (show aCr 1 117 [.int x2, .ref 117] 3 = some ([some (.ref 117), some (.int x2), none], []) from rfl)) hq1 ?_
  refine Q.run zm152 3 (i' := 13) (ls' := [some (.ref 117), some (.int x1), some (.int x2), some (.int x3)]) (st' := [.int (x3 &&& 1)]) rfl ?_
  by_cases hc4 : (x3 &&& 1) = 0
  · rw [if_pos hc4] at h
    refine Q.map (A.zT (gI_of zm152 (e := (20, 3, .ifCond .eq 9, [17])) rfl) (decide_eq_true hc4)) ?_
    exact dt152_17 hd hq1.1  h
  · rw [if_neg hc4] at h
    refine Q.map (A.zF (gI_of zm152 (e := (20, 3, .ifCond .eq 9, [17])) rfl) (fun q => hc4 (of_decide_eq_true q))) ?_
    refine Q.run zm152 2 (i' := 16) (ls' := [some (.ref 117), some (.int x1), some (.int x2), some (.int x3)]) (st' := [.int 36, .ref 117]) rfl ?_
    obtain ⟨s7, hc6, h⟩ := bu_so h
    have hq5 : Q 1 sio tt cc d 141 0 [some (.ref 117), some (.int 36)] [] s3 (.inl none, s7) := dt141 (by omega) hq1.1  hc6
    refine Q.callV (gC_vi zm152 (show zM152.2.2.2.2.2[16]? = some (26, 3, .invokevirtual 72, [0, 141, 1, 8]) from rfl) zm141 (hq1.1.lt (a := 117) (by decide)) (hq1.1.T (a := 117) (p := (8, 11)) 39 rfl rfl) rfl (show aCr 1 117 [.int 36, .ref 117] 2 = some ([some (.ref 117), some (.int 36)], []) from rfl)) hq5 ?_
    exact dt152_17 hd hq5.1  h
def dm152 (x1 : Int32) (x2 : Int32) (x3 : Int32) (s : aS) : Option (aS) :=
  if (x3 &&& 2) = 0 then
    dm152_7 x1 x2 x3 s
  else
    bu (dm141 36 s) fun s4 =>
    dm152_7 x1 x2 x3 s4
set_option maxRecDepth 100000 in
theorem dt152 {sio : Bool} {tt : Nat} {cc : Nat → Nat → Int32} {d : Nat} (hd : 2 ≤ d) {x1 : Int32} {x2 : Int32} {x3 : Int32} {s : aS} (hl : Ly tt cc s) {o : aS} (h : dm152  x1 x2 x3 s = some o) : Q 1 sio tt cc d 152 0 [some (.ref 117), some (.int x1), some (.int x2), some (.int x3)] [] s (.inl none, o) := by
  unfold dm152 at h
  obtain ⟨d, rfl⟩ : ∃ e, d = e + 1 := ⟨d - 1, by omega⟩
  refine Q.run zm152 3 (i' := 3) (ls' := [some (.ref 117), some (.int x1), some (.int x2), some (.int x3)]) (st' := [.int (x3 &&& 2)]) rfl ?_
  by_cases hc1 : (x3 &&& 2) = 0
  · rw [if_pos hc1] at h
    refine Q.map (A.zT (gI_of zm152 (e := (3, 3, .ifCond .eq 9, [7])) rfl) (decide_eq_true hc1)) ?_
    exact dt152_7 hd hl  h
  · rw [if_neg hc1] at h
    refine Q.map (A.zF (gI_of zm152 (e := (3, 3, .ifCond .eq 9, [7])) rfl) (fun q => hc1 (of_decide_eq_true q))) ?_
    refine Q.run zm152 2 (i' := 6) (ls' := [some (.ref 117), some (.int x1), some (.int x2), some (.int x3)]) (st' := [.int 36, .ref 117]) rfl ?_
    obtain ⟨s4, hc3, h⟩ := bu_so h
    have hq2 : Q 1 sio tt cc d 141 0 [some (.ref 117), some (.int 36)] [] s (.inl none, s4) := dt141 (by omega) hl  hc3
    refine Q.callV (gC_vi zm152 (show zM152.2.2.2.2.2[6]? = some (9, 3, .invokevirtual 72, [0, 141, 1, 8]) from rfl) zm141 (hl.lt (a := 117) (by decide)) (hl.T (a := 117) (p := (8, 11)) 39 rfl rfl) rfl (show aCr 1 117 [.int 36, .ref 117] 2 = some ([some (.ref 117), some (.int 36)], []) from rfl)) hq2 ?_
    exact dt152_7 hd hq2.1  h
/-! 148 FormulaTrees$Writer.writeReference(I)V -/
set_option maxRecDepth 100000 in
theorem zm148 : zP[148]? = some zM148 := rfl
def dm148_18 (x1 : Int32) (x3 : Int32) (s : aS) : Option (aS) :=
  vN (sR s 117 5) (
    none
  ) fun b2 =>
    if aK s b2 3 then
      bu (dm57 b2 x1 3 s) fun r6 =>
      vN (sR s 117 5) (
        none
      ) fun b8 =>
        if aK s b8 3 then
          bu (dm57 b8 x1 4 s) fun r12 =>
          bu (dm152 r6 r12 x3 s) fun s15 =>
          vN (sR s15 117 5) (
            none
          ) fun b19 =>
            if aK s15 b19 3 then
              bu (dm57 b19 x1 0 s15) fun r23 =>
              if r23 = 5 then
                bu (dm141 58 s15) fun s27 =>
                vN (sR s27 117 5) (
                  none
                ) fun b32 =>
                  if aK s27 b32 3 then
                    bu (dm57 b32 x1 5 s27) fun r36 =>
                    vN (sR s27 117 5) (
                      none
                    ) fun b38 =>
                      if aK s27 b38 3 then
                        bu (dm57 b38 x1 6 s27) fun r42 =>
                        bu (dm152 r36 r42 (x3 / 4) s27) fun s45 =>
                        some s45
                      else none
                  else none
              else
                some s15
            else none
        else none
    else none
set_option maxRecDepth 100000 in
theorem dt148_18 {sio : Bool} {tt : Nat} {cc : Nat → Nat → Int32} {d : Nat} (hd : 3 ≤ d) {x1 : Int32} {x3 : Int32} {x2 : Int32} {s : aS} (hl : Ly tt cc s) {o : aS} (h : dm148_18  x1 x3 s = some o) : Q 1 sio tt cc d 148 18 [some (.ref 117), some (.int x1), some (.int x2), some (.int x3)] [] s (.inl none, o) := by
  unfold dm148_18 at h
  obtain ⟨d, rfl⟩ : ∃ e, d = e + 1 := ⟨d - 1, by omega⟩
  refine Q.run zm148 2 (i' := 20) (ls' := [some (.ref 117), some (.int x1), some (.int x2), some (.int x3)]) (st' := [.ref 117, .ref 117]) rfl ?_
  rcases vN_so h with ⟨hv1, h⟩ | ⟨b2, hv1, h⟩
  · refine Q.map (A.gf (gI_of zm148 (e := (33, 3, .getfield 26, [8, 5])) rfl) (hl.lt (a := 117) (by decide)) (hl.T (a := 117) (p := (8, 11)) 39 rfl rfl) (by decide) hv1) ?_
    refine Q.run zm148 2 (i' := 23) (ls' := [some (.ref 117), some (.int x1), some (.int x2), some (.int x3)]) (st' := [.int 3, .int x1, .null, .ref 117]) rfl ?_
    cases h
  · obtain ⟨hr3, h⟩ := ite_so h
    refine Q.map (A.gf (gI_of zm148 (e := (33, 3, .getfield 26, [8, 5])) rfl) (hl.lt (a := 117) (by decide)) (hl.T (a := 117) (p := (8, 11)) 39 rfl rfl) (by decide) hv1) ?_
    refine Q.run zm148 2 (i' := 23) (ls' := [some (.ref 117), some (.int x1), some (.int x2), some (.int x3)]) (st' := [.int 3, .int x1, .ref b2, .ref 117]) rfl ?_
    obtain ⟨r6, hc5, h⟩ := bu_so h
    have hq4 : Q 1 sio tt cc d 57 0 [some (.ref b2), some (.int x1), some (.int 3), none] [] s (.inl (some (.int r6)), s) := dt57 (by omega) hl hr3 hc5
    refine Q.callI (gC_vi zm148 (show zM148.2.2.2.2.2[23]? = some (38, 3, .invokevirtual 75, [0, 57, 2, 3]) from rfl) zm57 hr3.1 (hl.tr hr3).1 rfl (show aCr 2 b2 [.int 3, .int x1, .ref b2, .ref 117] 4 = some ([some (.ref b2), some (.int x1), some (.int 3), none], [.ref 117]) from rfl)) hq4 ?_
    refine Q.run zm148 1 (i' := 25) (ls' := [some (.ref 117), some (.int x1), some (.int x2), some (.int x3)]) (st' := [.ref 117, .int r6, .ref 117]) rfl ?_
    rcases vN_so h with ⟨hv7, h⟩ | ⟨b8, hv7, h⟩
    · refine Q.map (A.gf (gI_of zm148 (e := (42, 3, .getfield 26, [8, 5])) rfl) (hl.lt (a := 117) (by decide)) (hl.T (a := 117) (p := (8, 11)) 39 rfl rfl) (by decide) hv7) ?_
      refine Q.run zm148 2 (i' := 28) (ls' := [some (.ref 117), some (.int x1), some (.int x2), some (.int x3)]) (st' := [.int 4, .int x1, .null, .int r6, .ref 117]) rfl ?_
      cases h
    · obtain ⟨hr9, h⟩ := ite_so h
      refine Q.map (A.gf (gI_of zm148 (e := (42, 3, .getfield 26, [8, 5])) rfl) (hl.lt (a := 117) (by decide)) (hl.T (a := 117) (p := (8, 11)) 39 rfl rfl) (by decide) hv7) ?_
      refine Q.run zm148 2 (i' := 28) (ls' := [some (.ref 117), some (.int x1), some (.int x2), some (.int x3)]) (st' := [.int 4, .int x1, .ref b8, .int r6, .ref 117]) rfl ?_
      obtain ⟨r12, hc11, h⟩ := bu_so h
      have hq10 : Q 1 sio tt cc d 57 0 [some (.ref b8), some (.int x1), some (.int 4), none] [] s (.inl (some (.int r12)), s) := dt57 (by omega) hl hr9 hc11
      refine Q.callI (gC_vi zm148 (show zM148.2.2.2.2.2[28]? = some (47, 3, .invokevirtual 75, [0, 57, 2, 3]) from rfl) zm57 hr9.1 (hl.tr hr9).1 rfl (show aCr 2 b8 [.int 4, .int x1, .ref b8, .int r6, .ref 117] 4 = some ([some (.ref b8), some (.int x1), some (.int 4), none], [.int r6, .ref 117]) from rfl)) hq10 ?_
      refine Q.run zm148 1 (i' := 30) (ls' := [some (.ref 117), some (.int x1), some (.int x2), some (.int x3)]) (st' := [.int x3, .int r12, .int r6, .ref 117]) rfl ?_
      obtain ⟨s15, hc14, h⟩ := bu_so h
      have hq13 : Q 1 sio tt cc d 152 0 [some (.ref 117), some (.int r6), some (.int r12), some (.int x3)] [] s (.inl none, s15) := dt152 (by omega) hl  hc14
      refine Q.callV (gC_vi zm148 (show zM148.2.2.2.2.2[30]? = some (51, 3, .invokevirtual 151, [0, 152, 3, 8]) from rfl) zm152 (hl.lt (a := 117) (by decide)) (hl.T (a := 117) (p := (8, 11)) 39 rfl rfl) rfl (show aCr 3 117 [.int x3, .int r12, .int r6, .ref 117] 4 = some ([some (.ref 117), some (.int r6), some (.int r12), some (.int x3)], []) from rfl)) hq13 ?_
      have hr16 : aK s15 b2 3 := hq13.2.1.k hr3
      have hr17 : aK s15 b8 3 := hq13.2.1.k hr9
      refine Q.run zm148 1 (i' := 32) (ls' := [some (.ref 117), some (.int x1), some (.int x2), some (.int x3)]) (st' := [.ref 117]) rfl ?_
      rcases vN_so h with ⟨hv18, h⟩ | ⟨b19, hv18, h⟩
      · refine Q.map (A.gf (gI_of zm148 (e := (55, 3, .getfield 26, [8, 5])) rfl) (hq13.1.lt (a := 117) (by decide)) (hq13.1.T (a := 117) (p := (8, 11)) 39 rfl rfl) (by decide) hv18) ?_
        refine Q.run zm148 2 (i' := 35) (ls' := [some (.ref 117), some (.int x1), some (.int x2), some (.int x3)]) (st' := [.int 0, .int x1, .null]) rfl ?_
        cases h
      · obtain ⟨hr20, h⟩ := ite_so h
        refine Q.map (A.gf (gI_of zm148 (e := (55, 3, .getfield 26, [8, 5])) rfl) (hq13.1.lt (a := 117) (by decide)) (hq13.1.T (a := 117) (p := (8, 11)) 39 rfl rfl) (by decide) hv18) ?_
        refine Q.run zm148 2 (i' := 35) (ls' := [some (.ref 117), some (.int x1), some (.int x2), some (.int x3)]) (st' := [.int 0, .int x1, .ref b19]) rfl ?_
        obtain ⟨r23, hc22, h⟩ := bu_so h
        have hq21 : Q 1 sio tt cc d 57 0 [some (.ref b19), some (.int x1), some (.int 0), none] [] s15 (.inl (some (.int r23)), s15) := dt57 (by omega) hq13.1 hr20 hc22
        refine Q.callI (gC_vi zm148 (show zM148.2.2.2.2.2[35]? = some (60, 3, .invokevirtual 75, [0, 57, 2, 3]) from rfl) zm57 hr20.1 (hq13.1.tr hr20).1 rfl (show aCr 2 b19 [.int 0, .int x1, .ref b19] 4 = some ([some (.ref b19), some (.int x1), some (.int 0), none], []) from rfl)) hq21 ?_
        refine Q.run zm148 1 (i' := 37) (ls' := [some (.ref 117), some (.int x1), some (.int x2), some (.int x3)]) (st' := [.int 5, .int r23]) rfl ?_
        by_cases hc24 : r23 = 5
        · rw [if_pos hc24] at h
          refine Q.map (A.bF (gI_of zm148 (e := (64, 3, .if_icmp .ne 35, [56])) rfl) (fun q => of_decide_eq_true q hc24)) ?_
          refine Q.run zm148 2 (i' := 40) (ls' := [some (.ref 117), some (.int x1), some (.int x2), some (.int x3)]) (st' := [.int 58, .ref 117]) rfl ?_
          obtain ⟨s27, hc26, h⟩ := bu_so h
          have hq25 : Q 1 sio tt cc d 141 0 [some (.ref 117), some (.int 58)] [] s15 (.inl none, s27) := dt141 (by omega) hq13.1  hc26
          refine Q.callV (gC_vi zm148 (show zM148.2.2.2.2.2[40]? = some (70, 3, .invokevirtual 72, [0, 141, 1, 8]) from rfl) zm141 (hq13.1.lt (a := 117) (by decide)) (hq13.1.T (a := 117) (p := (8, 11)) 39 rfl rfl) rfl (show aCr 1 117 [.int 58, .ref 117] 2 = some ([some (.ref 117), some (.int 58)], []) from rfl)) hq25 ?_
          have hr28 : aK s27 b2 3 := hq25.2.1.k hr16
          have hr29 : aK s27 b8 3 := hq25.2.1.k hr17
          have hr30 : aK s27 b19 3 := hq25.2.1.k hr20
          refine Q.run zm148 2 (i' := 43) (ls' := [some (.ref 117), some (.int x1), some (.int x2), some (.int x3)]) (st' := [.ref 117, .ref 117]) rfl ?_
          rcases vN_so h with ⟨hv31, h⟩ | ⟨b32, hv31, h⟩
          · refine Q.map (A.gf (gI_of zm148 (e := (75, 3, .getfield 26, [8, 5])) rfl) (hq25.1.lt (a := 117) (by decide)) (hq25.1.T (a := 117) (p := (8, 11)) 39 rfl rfl) (by decide) hv31) ?_
            refine Q.run zm148 2 (i' := 46) (ls' := [some (.ref 117), some (.int x1), some (.int x2), some (.int x3)]) (st' := [.int 5, .int x1, .null, .ref 117]) rfl ?_
            cases h
          · obtain ⟨hr33, h⟩ := ite_so h
            refine Q.map (A.gf (gI_of zm148 (e := (75, 3, .getfield 26, [8, 5])) rfl) (hq25.1.lt (a := 117) (by decide)) (hq25.1.T (a := 117) (p := (8, 11)) 39 rfl rfl) (by decide) hv31) ?_
            refine Q.run zm148 2 (i' := 46) (ls' := [some (.ref 117), some (.int x1), some (.int x2), some (.int x3)]) (st' := [.int 5, .int x1, .ref b32, .ref 117]) rfl ?_
            obtain ⟨r36, hc35, h⟩ := bu_so h
            have hq34 : Q 1 sio tt cc d 57 0 [some (.ref b32), some (.int x1), some (.int 5), none] [] s27 (.inl (some (.int r36)), s27) := dt57 (by omega) hq25.1 hr33 hc35
            refine Q.callI (gC_vi zm148 (show zM148.2.2.2.2.2[46]? = some (80, 3, .invokevirtual 75, [0, 57, 2, 3]) from rfl) zm57 hr33.1 (hq25.1.tr hr33).1 rfl (show aCr 2 b32 [.int 5, .int x1, .ref b32, .ref 117] 4 = some ([some (.ref b32), some (.int x1), some (.int 5), none], [.ref 117]) from rfl)) hq34 ?_
            refine Q.run zm148 1 (i' := 48) (ls' := [some (.ref 117), some (.int x1), some (.int x2), some (.int x3)]) (st' := [.ref 117, .int r36, .ref 117]) rfl ?_
            rcases vN_so h with ⟨hv37, h⟩ | ⟨b38, hv37, h⟩
            · refine Q.map (A.gf (gI_of zm148 (e := (84, 3, .getfield 26, [8, 5])) rfl) (hq25.1.lt (a := 117) (by decide)) (hq25.1.T (a := 117) (p := (8, 11)) 39 rfl rfl) (by decide) hv37) ?_
              refine Q.run zm148 2 (i' := 51) (ls' := [some (.ref 117), some (.int x1), some (.int x2), some (.int x3)]) (st' := [.int 6, .int x1, .null, .int r36, .ref 117]) rfl ?_
              cases h
            · obtain ⟨hr39, h⟩ := ite_so h
              refine Q.map (A.gf (gI_of zm148 (e := (84, 3, .getfield 26, [8, 5])) rfl) (hq25.1.lt (a := 117) (by decide)) (hq25.1.T (a := 117) (p := (8, 11)) 39 rfl rfl) (by decide) hv37) ?_
              refine Q.run zm148 2 (i' := 51) (ls' := [some (.ref 117), some (.int x1), some (.int x2), some (.int x3)]) (st' := [.int 6, .int x1, .ref b38, .int r36, .ref 117]) rfl ?_
              obtain ⟨r42, hc41, h⟩ := bu_so h
              have hq40 : Q 1 sio tt cc d 57 0 [some (.ref b38), some (.int x1), some (.int 6), none] [] s27 (.inl (some (.int r42)), s27) := dt57 (by omega) hq25.1 hr39 hc41
              refine Q.callI (gC_vi zm148 (show zM148.2.2.2.2.2[51]? = some (90, 3, .invokevirtual 75, [0, 57, 2, 3]) from rfl) zm57 hr39.1 (hq25.1.tr hr39).1 rfl (show aCr 2 b38 [.int 6, .int x1, .ref b38, .int r36, .ref 117] 4 = some ([some (.ref b38), some (.int x1), some (.int 6), none], [.int r36, .ref 117]) from rfl)) hq40 ?_
              refine Q.run zm148 3 (i' := 55) (ls' := [some (.ref 117), some (.int x1), some (.int x2), some (.int x3)]) (st' := [.int (x3 / 4), .int r42, .int r36, .ref 117]) rfl ?_
              obtain ⟨s45, hc44, h⟩ := bu_so h
              have hq43 : Q 1 sio tt cc d 152 0 [some (.ref 117), some (.int r36), some (.int r42), some (.int (x3 / 4))] [] s27 (.inl none, s45) := dt152 (by omega) hq25.1  hc44
              refine Q.callV (gC_vi zm148 (show zM148.2.2.2.2.2[55]? = some (96, 3, .invokevirtual 151, [0, 152, 3, 8]) from rfl) zm152 (hq25.1.lt (a := 117) (by decide)) (hq25.1.T (a := 117) (p := (8, 11)) 39 rfl rfl) rfl (show aCr 3 117 [.int (x3 / 4), .int r42, .int r36, .ref 117] 4 = some ([some (.ref 117), some (.int r36), some (.int r42), some (.int (x3 / 4))], []) from rfl)) hq43 ?_
              have hr46 : aK s45 b2 3 := hq43.2.1.k hr28
              have hr47 : aK s45 b8 3 := hq43.2.1.k hr29
              have hr48 : aK s45 b19 3 := hq43.2.1.k hr30
              have hr49 : aK s45 b32 3 := hq43.2.1.k hr33
              have hr50 : aK s45 b38 3 := hq43.2.1.k hr39
              cases h
              exact Q.ret (A.rv zm148 (show zM148.2.2.2.2.2[56]? = some (99, 1, .return_, []) from rfl) rfl) hq43.1
        · rw [if_neg hc24] at h
          refine Q.map (A.bT (gI_of zm148 (e := (64, 3, .if_icmp .ne 35, [56])) rfl) (decide_eq_true hc24)) ?_
          cases h
          exact Q.ret (A.rv zm148 (show zM148.2.2.2.2.2[56]? = some (99, 1, .return_, []) from rfl) rfl) hq13.1
def dm148 (x1 : Int32) (s : aS) : Option (aS) :=
  vN (sR s 117 5) (
    none
  ) fun b2 =>
    if aK s b2 3 then
      bu (dm57 b2 x1 2 s) fun r6 =>
      vN (sR s 117 5) (
        none
      ) fun b8 =>
        if aK s b8 3 then
          bu (dm57 b8 x1 7 s) fun r12 =>
          if r6 = (-1) then
            dm148_18 x1 r12 s
          else
            bu (dm149 r6 s) fun s16 =>
            dm148_18 x1 r12 s16
        else none
    else none
set_option maxRecDepth 100000 in
theorem dt148 {sio : Bool} {tt : Nat} {cc : Nat → Nat → Int32} {d : Nat} (hd : 3 ≤ d) {x1 : Int32} {s : aS} (hl : Ly tt cc s) {o : aS} (h : dm148  x1 s = some o) : Q 1 sio tt cc d 148 0 [some (.ref 117), some (.int x1), none, none] [] s (.inl none, o) := by
  unfold dm148 at h
  obtain ⟨d, rfl⟩ : ∃ e, d = e + 1 := ⟨d - 1, by omega⟩
  refine Q.run zm148 1 (i' := 1) (ls' := [some (.ref 117), some (.int x1), none, none]) (st' := [.ref 117]) rfl ?_
  rcases vN_so h with ⟨hv1, h⟩ | ⟨b2, hv1, h⟩
  · refine Q.map (A.gf (gI_of zm148 (e := (1, 3, .getfield 26, [8, 5])) rfl) (hl.lt (a := 117) (by decide)) (hl.T (a := 117) (p := (8, 11)) 39 rfl rfl) (by decide) hv1) ?_
    refine Q.run zm148 2 (i' := 4) (ls' := [some (.ref 117), some (.int x1), none, none]) (st' := [.int 2, .int x1, .null]) rfl ?_
    cases h
  · obtain ⟨hr3, h⟩ := ite_so h
    refine Q.map (A.gf (gI_of zm148 (e := (1, 3, .getfield 26, [8, 5])) rfl) (hl.lt (a := 117) (by decide)) (hl.T (a := 117) (p := (8, 11)) 39 rfl rfl) (by decide) hv1) ?_
    refine Q.run zm148 2 (i' := 4) (ls' := [some (.ref 117), some (.int x1), none, none]) (st' := [.int 2, .int x1, .ref b2]) rfl ?_
    obtain ⟨r6, hc5, h⟩ := bu_so h
    have hq4 : Q 1 sio tt cc d 57 0 [some (.ref b2), some (.int x1), some (.int 2), none] [] s (.inl (some (.int r6)), s) := dt57 (by omega) hl hr3 hc5
    refine Q.callI (gC_vi zm148 (show zM148.2.2.2.2.2[4]? = some (6, 3, .invokevirtual 75, [0, 57, 2, 3]) from rfl) zm57 hr3.1 (hl.tr hr3).1 rfl (show aCr 2 b2 [.int 2, .int x1, .ref b2] 4 = some ([some (.ref b2), some (.int x1), some (.int 2), none], []) from rfl)) hq4 ?_
    refine Q.run zm148 2 (i' := 7) (ls' := [some (.ref 117), some (.int x1), some (.int r6), none]) (st' := [.ref 117]) rfl ?_
    rcases vN_so h with ⟨hv7, h⟩ | ⟨b8, hv7, h⟩
    · refine Q.map (A.gf (gI_of zm148 (e := (11, 3, .getfield 26, [8, 5])) rfl) (hl.lt (a := 117) (by decide)) (hl.T (a := 117) (p := (8, 11)) 39 rfl rfl) (by decide) hv7) ?_
      refine Q.run zm148 2 (i' := 10) (ls' := [some (.ref 117), some (.int x1), some (.int r6), none]) (st' := [.int 7, .int x1, .null]) rfl ?_
      cases h
    · obtain ⟨hr9, h⟩ := ite_so h
      refine Q.map (A.gf (gI_of zm148 (e := (11, 3, .getfield 26, [8, 5])) rfl) (hl.lt (a := 117) (by decide)) (hl.T (a := 117) (p := (8, 11)) 39 rfl rfl) (by decide) hv7) ?_
      refine Q.run zm148 2 (i' := 10) (ls' := [some (.ref 117), some (.int x1), some (.int r6), none]) (st' := [.int 7, .int x1, .ref b8]) rfl ?_
      obtain ⟨r12, hc11, h⟩ := bu_so h
      have hq10 : Q 1 sio tt cc d 57 0 [some (.ref b8), some (.int x1), some (.int 7), none] [] s (.inl (some (.int r12)), s) := dt57 (by omega) hl hr9 hc11
      refine Q.callI (gC_vi zm148 (show zM148.2.2.2.2.2[10]? = some (17, 3, .invokevirtual 75, [0, 57, 2, 3]) from rfl) zm57 hr9.1 (hl.tr hr9).1 rfl (show aCr 2 b8 [.int 7, .int x1, .ref b8] 4 = some ([some (.ref b8), some (.int x1), some (.int 7), none], []) from rfl)) hq10 ?_
      refine Q.run zm148 3 (i' := 14) (ls' := [some (.ref 117), some (.int x1), some (.int r6), some (.int r12)]) (st' := [.int (-1), .int r6]) rfl ?_
      by_cases hc13 : r6 = (-1)
      · rw [if_pos hc13] at h
        refine Q.map (A.bT (gI_of zm148 (e := (23, 3, .if_icmp .eq 8, [18])) rfl) (decide_eq_true hc13)) ?_
        exact dt148_18 hd hl  h
      · rw [if_neg hc13] at h
        refine Q.map (A.bF (gI_of zm148 (e := (23, 3, .if_icmp .eq 8, [18])) rfl) (fun q => hc13 (of_decide_eq_true q))) ?_
        refine Q.run zm148 2 (i' := 17) (ls' := [some (.ref 117), some (.int x1), some (.int r6), some (.int r12)]) (st' := [.int r6, .ref 117]) rfl ?_
        obtain ⟨s16, hc15, h⟩ := bu_so h
        have hq14 : Q 1 sio tt cc d 149 0 [some (.ref 117), some (.int r6), none, none] [] s (.inl none, s16) := dt149 (by omega) hl  hc15
        refine Q.callV (gC_vi zm148 (show zM148.2.2.2.2.2[17]? = some (28, 3, .invokevirtual 148, [0, 149, 1, 8]) from rfl) zm149 (hl.lt (a := 117) (by decide)) (hl.T (a := 117) (p := (8, 11)) 39 rfl rfl) rfl (show aCr 1 117 [.int r6, .ref 117] 4 = some ([some (.ref 117), some (.int r6), none, none], []) from rfl)) hq14 ?_
        have hr17 : aK s16 b2 3 := hq14.2.1.k hr3
        have hr18 : aK s16 b8 3 := hq14.2.1.k hr9
        exact dt148_18 hd hq14.1  h
/-! 142 FormulaTrees$Writer.writeBeginning(I)V -/
set_option maxRecDepth 100000 in
theorem zm142 : zP[142]? = some zM142 := rfl
def dm142_34 (c1 : Nat) (s : aS) : Option (aS) :=
  bu (dm147 c1 s) fun s3 =>
  some s3
set_option maxRecDepth 100000 in
theorem dt142_34 {sio : Bool} {tt : Nat} {cc : Nat → Nat → Int32} {d : Nat} (hd : 5 ≤ d) {c1 : Nat} {x1 : Int32} {s : aS} (hl : Ly tt cc s) (hk_c1 : aK s c1 70) {o : aS} (h : dm142_34  c1 s = some o) : Q 1 sio tt cc d 142 34 [some (.ref 117), some (.int x1)] [.ref c1, .ref 117] s (.inl none, o) := by
  unfold dm142_34 at h
  obtain ⟨d, rfl⟩ : ∃ e, d = e + 1 := ⟨d - 1, by omega⟩
  obtain ⟨s3, hc2, h⟩ := bu_so h
  have hq1 : Q 1 sio tt cc d 147 0 [some (.ref 117), some (.ref c1), none] [] s (.inl none, s3) := dt147 (by omega) hl hk_c1 hc2
  refine Q.callV (gC_vi zm142 (show zM142.2.2.2.2.2[34]? = some (126, 3, .invokevirtual 90, [0, 147, 1, 8]) from rfl) zm147 (hl.lt (a := 117) (by decide)) (hl.T (a := 117) (p := (8, 11)) 39 rfl rfl) rfl (show aCr 1 117 [.ref c1, .ref 117] 3 = some ([some (.ref 117), some (.ref c1), none], []) from rfl)) hq1 ?_
  have hr4 : aK s3 c1 70 := hq1.2.1.k hk_c1
  refine Q.run zm142 1 (i' := 51) (ls' := [some (.ref 117), some (.int x1)]) (st' := []) rfl ?_
  cases h
  exact Q.ret (A.rv zm142 (show zM142.2.2.2.2.2[51]? = some (163, 1, .return_, []) from rfl) rfl) hq1.1
def dm142 (x1 : Int32) (s : aS) : Option (aS) :=
  vN (sR s 117 5) (
    none
  ) fun b2 =>
    if aK s b2 3 then
      bu (dm57 b2 x1 0 s) fun r6 =>
      if r6 = 0 then
        bu (dm143 x1 s) fun s10 =>
        some s10
      else
        if r6 = 1 then
          bu (dm145 x1 s) fun s15 =>
          some s15
        else
          if r6 = 2 then
            vN (sR s 117 5) (
              none
            ) fun b19 =>
              if aK s b19 3 then
                bu (dm57 b19 x1 8 s) fun r23 =>
                bu (dm110 r23) fun r26 =>
                vR r26 fun b27 =>
                if aK s b27 70 then
                  bu (dm147 b27 s) fun s32 =>
                  some s32
                else none
              else none
          else
            if r6 = 3 then
              vN (sR s 117 5) (
                none
              ) fun b38 =>
                if aK s b38 3 then
                  bu (dm57 b38 x1 8 s) fun r42 =>
                  if r42 = 1 then
                    dm142_34 41 s
                  else
                    dm142_34 43 s
                else none
            else
              if r6 = 4 then
                bu (dm148 x1 s) fun s47 =>
                some s47
              else
                if r6 = 5 then
                  bu (dm148 x1 s) fun s52 =>
                  some s52
                else
                  if r6 = 6 then
                    bu (dm143 x1 s) fun s57 =>
                    some s57
                  else
                    if r6 = 7 then
                      bu (dm143 x1 s) fun s62 =>
                      bu (dm141 40 s62) fun s66 =>
                      some s66
                    else
                      if r6 = 8 then
                        some s
                      else
                        if r6 = 9 then
                          some s
                        else
                          if r6 = 10 then
                            bu (dm141 45 s) fun s73 =>
                            some s73
                          else
                            some s
    else none
set_option maxRecDepth 100000 in
theorem dt142 {sio : Bool} {tt : Nat} {cc : Nat → Nat → Int32} {d : Nat} (hd : 5 ≤ d) {x1 : Int32} {s : aS} (hl : Ly tt cc s) {o : aS} (h : dm142  x1 s = some o) : Q 1 sio tt cc d 142 0 [some (.ref 117), some (.int x1)] [] s (.inl none, o) := by
  unfold dm142 at h
  obtain ⟨d, rfl⟩ : ∃ e, d = e + 1 := ⟨d - 1, by omega⟩
  refine Q.run zm142 1 (i' := 1) (ls' := [some (.ref 117), some (.int x1)]) (st' := [.ref 117]) rfl ?_
  rcases vN_so h with ⟨hv1, h⟩ | ⟨b2, hv1, h⟩
  · refine Q.map (A.gf (gI_of zm142 (e := (1, 3, .getfield 26, [8, 5])) rfl) (hl.lt (a := 117) (by decide)) (hl.T (a := 117) (p := (8, 11)) 39 rfl rfl) (by decide) hv1) ?_
    refine Q.run zm142 2 (i' := 4) (ls' := [some (.ref 117), some (.int x1)]) (st' := [.int 0, .int x1, .null]) rfl ?_
    cases h
  · obtain ⟨hr3, h⟩ := ite_so h
    refine Q.map (A.gf (gI_of zm142 (e := (1, 3, .getfield 26, [8, 5])) rfl) (hl.lt (a := 117) (by decide)) (hl.T (a := 117) (p := (8, 11)) 39 rfl rfl) (by decide) hv1) ?_
    refine Q.run zm142 2 (i' := 4) (ls' := [some (.ref 117), some (.int x1)]) (st' := [.int 0, .int x1, .ref b2]) rfl ?_
    obtain ⟨r6, hc5, h⟩ := bu_so h
    have hq4 : Q 1 sio tt cc d 57 0 [some (.ref b2), some (.int x1), some (.int 0), none] [] s (.inl (some (.int r6)), s) := dt57 (by omega) hl hr3 hc5
    refine Q.callI (gC_vi zm142 (show zM142.2.2.2.2.2[4]? = some (6, 3, .invokevirtual 75, [0, 57, 2, 3]) from rfl) zm57 hr3.1 (hl.tr hr3).1 rfl (show aCr 2 b2 [.int 0, .int x1, .ref b2] 4 = some ([some (.ref b2), some (.int x1), some (.int 0), none], []) from rfl)) hq4 ?_
    by_cases hc7 : r6 = 0
    · rw [if_pos hc7] at h
      refine Q.map (A.ts (gI_of zm142 (e := (9, 59, .tableswitch 154 0 10 #[59, 67, 75, 95, 123, 123, 59, 131, 154, 154, 145], [51, 6, 10, 14, 23, 36, 36, 6, 40, 51, 51, 47])) rfl) (t := 6) (by rw [hc7] <;> decide)) ?_
      refine Q.run zm142 2 (i' := 8) (ls' := [some (.ref 117), some (.int x1)]) (st' := [.int x1, .ref 117]) rfl ?_
      obtain ⟨s10, hc9, h⟩ := bu_so h
      have hq8 : Q 1 sio tt cc d 143 0 [some (.ref 117), some (.int x1), none] [] s (.inl none, s10) := dt143 (by omega) hl  hc9
      refine Q.callV (gC_vi zm142 (show zM142.2.2.2.2.2[8]? = some (70, 3, .invokevirtual 126, [0, 143, 1, 8]) from rfl) zm143 (hl.lt (a := 117) (by decide)) (hl.T (a := 117) (p := (8, 11)) 39 rfl rfl) rfl (show aCr 1 117 [.int x1, .ref 117] 3 = some ([some (.ref 117), some (.int x1), none], []) from rfl)) hq8 ?_
      have hr11 : aK s10 b2 3 := hq8.2.1.k hr3
      refine Q.run zm142 1 (i' := 51) (ls' := [some (.ref 117), some (.int x1)]) (st' := []) rfl ?_
      cases h
      exact Q.ret (A.rv zm142 (show zM142.2.2.2.2.2[51]? = some (163, 1, .return_, []) from rfl) rfl) hq8.1
    · rw [if_neg hc7] at h
      by_cases hc12 : r6 = 1
      · rw [if_pos hc12] at h
        refine Q.map (A.ts (gI_of zm142 (e := (9, 59, .tableswitch 154 0 10 #[59, 67, 75, 95, 123, 123, 59, 131, 154, 154, 145], [51, 6, 10, 14, 23, 36, 36, 6, 40, 51, 51, 47])) rfl) (t := 10) (by rw [hc12] <;> decide)) ?_
        refine Q.run zm142 2 (i' := 12) (ls' := [some (.ref 117), some (.int x1)]) (st' := [.int x1, .ref 117]) rfl ?_
        obtain ⟨s15, hc14, h⟩ := bu_so h
        have hq13 : Q 1 sio tt cc d 145 0 [some (.ref 117), some (.int x1), none] [] s (.inl none, s15) := dt145 (by omega) hl  hc14
        refine Q.callV (gC_vi zm142 (show zM142.2.2.2.2.2[12]? = some (78, 3, .invokevirtual 129, [0, 145, 1, 8]) from rfl) zm145 (hl.lt (a := 117) (by decide)) (hl.T (a := 117) (p := (8, 11)) 39 rfl rfl) rfl (show aCr 1 117 [.int x1, .ref 117] 3 = some ([some (.ref 117), some (.int x1), none], []) from rfl)) hq13 ?_
        have hr16 : aK s15 b2 3 := hq13.2.1.k hr3
        refine Q.run zm142 1 (i' := 51) (ls' := [some (.ref 117), some (.int x1)]) (st' := []) rfl ?_
        cases h
        exact Q.ret (A.rv zm142 (show zM142.2.2.2.2.2[51]? = some (163, 1, .return_, []) from rfl) rfl) hq13.1
      · rw [if_neg hc12] at h
        by_cases hc17 : r6 = 2
        · rw [if_pos hc17] at h
          refine Q.map (A.ts (gI_of zm142 (e := (9, 59, .tableswitch 154 0 10 #[59, 67, 75, 95, 123, 123, 59, 131, 154, 154, 145], [51, 6, 10, 14, 23, 36, 36, 6, 40, 51, 51, 47])) rfl) (t := 14) (by rw [hc17] <;> decide)) ?_
          refine Q.run zm142 2 (i' := 16) (ls' := [some (.ref 117), some (.int x1)]) (st' := [.ref 117, .ref 117]) rfl ?_
          rcases vN_so h with ⟨hv18, h⟩ | ⟨b19, hv18, h⟩
          · refine Q.map (A.gf (gI_of zm142 (e := (86, 3, .getfield 26, [8, 5])) rfl) (hl.lt (a := 117) (by decide)) (hl.T (a := 117) (p := (8, 11)) 39 rfl rfl) (by decide) hv18) ?_
            refine Q.run zm142 2 (i' := 19) (ls' := [some (.ref 117), some (.int x1)]) (st' := [.int 8, .int x1, .null, .ref 117]) rfl ?_
            cases h
          · obtain ⟨hr20, h⟩ := ite_so h
            refine Q.map (A.gf (gI_of zm142 (e := (86, 3, .getfield 26, [8, 5])) rfl) (hl.lt (a := 117) (by decide)) (hl.T (a := 117) (p := (8, 11)) 39 rfl rfl) (by decide) hv18) ?_
            refine Q.run zm142 2 (i' := 19) (ls' := [some (.ref 117), some (.int x1)]) (st' := [.int 8, .int x1, .ref b19, .ref 117]) rfl ?_
            obtain ⟨r23, hc22, h⟩ := bu_so h
            have hq21 : Q 1 sio tt cc d 57 0 [some (.ref b19), some (.int x1), some (.int 8), none] [] s (.inl (some (.int r23)), s) := dt57 (by omega) hl hr20 hc22
            refine Q.callI (gC_vi zm142 (show zM142.2.2.2.2.2[19]? = some (92, 3, .invokevirtual 75, [0, 57, 2, 3]) from rfl) zm57 hr20.1 (hl.tr hr20).1 rfl (show aCr 2 b19 [.int 8, .int x1, .ref b19, .ref 117] 4 = some ([some (.ref b19), some (.int x1), some (.int 8), none], [.ref 117]) from rfl)) hq21 ?_
            obtain ⟨r26, hc25, h⟩ := bu_so h
            have hq24 : Q 1 sio tt cc d 110 0 [some (.int r23)] [] s (.inl (some r26), s) := dt110 (by omega) hl  hc25
            obtain ⟨b27, hv28, h9⟩ := vR_so h
            clear h
            subst hv28
            have h := h9
            obtain ⟨hr29, h⟩ := ite_so h
            refine Q.callR (gC_st zm142 (show zM142.2.2.2.2.2[20]? = some (95, 3, .invokestatic 132, [0, 110, 1]) from rfl) zm110 (show aC 1 [.int r23, .ref 117] 1 = some ([some (.int r23)], [.ref 117]) from rfl)) hq24 ?_
            obtain ⟨s32, hc31, h⟩ := bu_so h
            have hq30 : Q 1 sio tt cc d 147 0 [some (.ref 117), some (.ref b27), none] [] s (.inl none, s32) := dt147 (by omega) hl hr29 hc31
            refine Q.callV (gC_vi zm142 (show zM142.2.2.2.2.2[21]? = some (98, 3, .invokevirtual 90, [0, 147, 1, 8]) from rfl) zm147 (hl.lt (a := 117) (by decide)) (hl.T (a := 117) (p := (8, 11)) 39 rfl rfl) rfl (show aCr 1 117 [.ref b27, .ref 117] 3 = some ([some (.ref 117), some (.ref b27), none], []) from rfl)) hq30 ?_
            have hr33 : aK s32 b2 3 := hq30.2.1.k hr3
            have hr34 : aK s32 b19 3 := hq30.2.1.k hr20
            have hr35 : aK s32 b27 70 := hq30.2.1.k hr29
            refine Q.run zm142 1 (i' := 51) (ls' := [some (.ref 117), some (.int x1)]) (st' := []) rfl ?_
            cases h
            exact Q.ret (A.rv zm142 (show zM142.2.2.2.2.2[51]? = some (163, 1, .return_, []) from rfl) rfl) hq30.1
        · rw [if_neg hc17] at h
          by_cases hc36 : r6 = 3
          · rw [if_pos hc36] at h
            refine Q.map (A.ts (gI_of zm142 (e := (9, 59, .tableswitch 154 0 10 #[59, 67, 75, 95, 123, 123, 59, 131, 154, 154, 145], [51, 6, 10, 14, 23, 36, 36, 6, 40, 51, 51, 47])) rfl) (t := 23) (by rw [hc36] <;> decide)) ?_
            refine Q.run zm142 2 (i' := 25) (ls' := [some (.ref 117), some (.int x1)]) (st' := [.ref 117, .ref 117]) rfl ?_
            rcases vN_so h with ⟨hv37, h⟩ | ⟨b38, hv37, h⟩
            · refine Q.map (A.gf (gI_of zm142 (e := (106, 3, .getfield 26, [8, 5])) rfl) (hl.lt (a := 117) (by decide)) (hl.T (a := 117) (p := (8, 11)) 39 rfl rfl) (by decide) hv37) ?_
              refine Q.run zm142 2 (i' := 28) (ls' := [some (.ref 117), some (.int x1)]) (st' := [.int 8, .int x1, .null, .ref 117]) rfl ?_
              cases h
            · obtain ⟨hr39, h⟩ := ite_so h
              refine Q.map (A.gf (gI_of zm142 (e := (106, 3, .getfield 26, [8, 5])) rfl) (hl.lt (a := 117) (by decide)) (hl.T (a := 117) (p := (8, 11)) 39 rfl rfl) (by decide) hv37) ?_
              refine Q.run zm142 2 (i' := 28) (ls' := [some (.ref 117), some (.int x1)]) (st' := [.int 8, .int x1, .ref b38, .ref 117]) rfl ?_
              obtain ⟨r42, hc41, h⟩ := bu_so h
              have hq40 : Q 1 sio tt cc d 57 0 [some (.ref b38), some (.int x1), some (.int 8), none] [] s (.inl (some (.int r42)), s) := dt57 (by omega) hl hr39 hc41
              refine Q.callI (gC_vi zm142 (show zM142.2.2.2.2.2[28]? = some (112, 3, .invokevirtual 75, [0, 57, 2, 3]) from rfl) zm57 hr39.1 (hl.tr hr39).1 rfl (show aCr 2 b38 [.int 8, .int x1, .ref b38, .ref 117] 4 = some ([some (.ref b38), some (.int x1), some (.int 8), none], [.ref 117]) from rfl)) hq40 ?_
              refine Q.run zm142 1 (i' := 30) (ls' := [some (.ref 117), some (.int x1)]) (st' := [.int 1, .int r42, .ref 117]) rfl ?_
              by_cases hc43 : r42 = 1
              · rw [if_pos hc43] at h
                refine Q.map (A.bF (gI_of zm142 (e := (116, 3, .if_icmp .ne 8, [33])) rfl) (fun q => of_decide_eq_true q hc43)) ?_
                refine Q.run zm142 2 (i' := 34) (ls' := [some (.ref 117), some (.int x1)]) (st' := [.ref 41, .ref 117]) rfl ?_
                exact dt142_34 hd hl (hl.lowK (a := 41) (c := 70) (by decide) (by decide)) h
              · rw [if_neg hc43] at h
                refine Q.map (A.bT (gI_of zm142 (e := (116, 3, .if_icmp .ne 8, [33])) rfl) (decide_eq_true hc43)) ?_
                refine Q.run zm142 1 (i' := 34) (ls' := [some (.ref 117), some (.int x1)]) (st' := [.ref 43, .ref 117]) rfl ?_
                exact dt142_34 hd hl (hl.lowK (a := 43) (c := 70) (by decide) (by decide)) h
          · rw [if_neg hc36] at h
            by_cases hc44 : r6 = 4
            · rw [if_pos hc44] at h
              refine Q.map (A.ts (gI_of zm142 (e := (9, 59, .tableswitch 154 0 10 #[59, 67, 75, 95, 123, 123, 59, 131, 154, 154, 145], [51, 6, 10, 14, 23, 36, 36, 6, 40, 51, 51, 47])) rfl) (t := 36) (by rw [hc44] <;> decide)) ?_
              refine Q.run zm142 2 (i' := 38) (ls' := [some (.ref 117), some (.int x1)]) (st' := [.int x1, .ref 117]) rfl ?_
              obtain ⟨s47, hc46, h⟩ := bu_so h
              have hq45 : Q 1 sio tt cc d 148 0 [some (.ref 117), some (.int x1), none, none] [] s (.inl none, s47) := dt148 (by omega) hl  hc46
              refine Q.callV (gC_vi zm142 (show zM142.2.2.2.2.2[38]? = some (134, 3, .invokevirtual 139, [0, 148, 1, 8]) from rfl) zm148 (hl.lt (a := 117) (by decide)) (hl.T (a := 117) (p := (8, 11)) 39 rfl rfl) rfl (show aCr 1 117 [.int x1, .ref 117] 4 = some ([some (.ref 117), some (.int x1), none, none], []) from rfl)) hq45 ?_
              have hr48 : aK s47 b2 3 := hq45.2.1.k hr3
              refine Q.run zm142 1 (i' := 51) (ls' := [some (.ref 117), some (.int x1)]) (st' := []) rfl ?_
              cases h
              exact Q.ret (A.rv zm142 (show zM142.2.2.2.2.2[51]? = some (163, 1, .return_, []) from rfl) rfl) hq45.1
            · rw [if_neg hc44] at h
              by_cases hc49 : r6 = 5
              · rw [if_pos hc49] at h
                refine Q.map (A.ts (gI_of zm142 (e := (9, 59, .tableswitch 154 0 10 #[59, 67, 75, 95, 123, 123, 59, 131, 154, 154, 145], [51, 6, 10, 14, 23, 36, 36, 6, 40, 51, 51, 47])) rfl) (t := 36) (by rw [hc49] <;> decide)) ?_
                refine Q.run zm142 2 (i' := 38) (ls' := [some (.ref 117), some (.int x1)]) (st' := [.int x1, .ref 117]) rfl ?_
                obtain ⟨s52, hc51, h⟩ := bu_so h
                have hq50 : Q 1 sio tt cc d 148 0 [some (.ref 117), some (.int x1), none, none] [] s (.inl none, s52) := dt148 (by omega) hl  hc51
                refine Q.callV (gC_vi zm142 (show zM142.2.2.2.2.2[38]? = some (134, 3, .invokevirtual 139, [0, 148, 1, 8]) from rfl) zm148 (hl.lt (a := 117) (by decide)) (hl.T (a := 117) (p := (8, 11)) 39 rfl rfl) rfl (show aCr 1 117 [.int x1, .ref 117] 4 = some ([some (.ref 117), some (.int x1), none, none], []) from rfl)) hq50 ?_
                have hr53 : aK s52 b2 3 := hq50.2.1.k hr3
                refine Q.run zm142 1 (i' := 51) (ls' := [some (.ref 117), some (.int x1)]) (st' := []) rfl ?_
                cases h
                exact Q.ret (A.rv zm142 (show zM142.2.2.2.2.2[51]? = some (163, 1, .return_, []) from rfl) rfl) hq50.1
              · rw [if_neg hc49] at h
                by_cases hc54 : r6 = 6
                · rw [if_pos hc54] at h
                  refine Q.map (A.ts (gI_of zm142 (e := (9, 59, .tableswitch 154 0 10 #[59, 67, 75, 95, 123, 123, 59, 131, 154, 154, 145], [51, 6, 10, 14, 23, 36, 36, 6, 40, 51, 51, 47])) rfl) (t := 6) (by rw [hc54] <;> decide)) ?_
                  refine Q.run zm142 2 (i' := 8) (ls' := [some (.ref 117), some (.int x1)]) (st' := [.int x1, .ref 117]) rfl ?_
                  obtain ⟨s57, hc56, h⟩ := bu_so h
                  have hq55 : Q 1 sio tt cc d 143 0 [some (.ref 117), some (.int x1), none] [] s (.inl none, s57) := dt143 (by omega) hl  hc56
                  refine Q.callV (gC_vi zm142 (show zM142.2.2.2.2.2[8]? = some (70, 3, .invokevirtual 126, [0, 143, 1, 8]) from rfl) zm143 (hl.lt (a := 117) (by decide)) (hl.T (a := 117) (p := (8, 11)) 39 rfl rfl) rfl (show aCr 1 117 [.int x1, .ref 117] 3 = some ([some (.ref 117), some (.int x1), none], []) from rfl)) hq55 ?_
                  have hr58 : aK s57 b2 3 := hq55.2.1.k hr3
                  refine Q.run zm142 1 (i' := 51) (ls' := [some (.ref 117), some (.int x1)]) (st' := []) rfl ?_
                  cases h
                  exact Q.ret (A.rv zm142 (show zM142.2.2.2.2.2[51]? = some (163, 1, .return_, []) from rfl) rfl) hq55.1
                · rw [if_neg hc54] at h
                  by_cases hc59 : r6 = 7
                  · rw [if_pos hc59] at h
                    refine Q.map (A.ts (gI_of zm142 (e := (9, 59, .tableswitch 154 0 10 #[59, 67, 75, 95, 123, 123, 59, 131, 154, 154, 145], [51, 6, 10, 14, 23, 36, 36, 6, 40, 51, 51, 47])) rfl) (t := 40) (by rw [hc59] <;> decide)) ?_
                    refine Q.run zm142 2 (i' := 42) (ls' := [some (.ref 117), some (.int x1)]) (st' := [.int x1, .ref 117]) rfl ?_
                    obtain ⟨s62, hc61, h⟩ := bu_so h
                    have hq60 : Q 1 sio tt cc d 143 0 [some (.ref 117), some (.int x1), none] [] s (.inl none, s62) := dt143 (by omega) hl  hc61
                    refine Q.callV (gC_vi zm142 (show zM142.2.2.2.2.2[42]? = some (142, 3, .invokevirtual 126, [0, 143, 1, 8]) from rfl) zm143 (hl.lt (a := 117) (by decide)) (hl.T (a := 117) (p := (8, 11)) 39 rfl rfl) rfl (show aCr 1 117 [.int x1, .ref 117] 3 = some ([some (.ref 117), some (.int x1), none], []) from rfl)) hq60 ?_
                    have hr63 : aK s62 b2 3 := hq60.2.1.k hr3
                    refine Q.run zm142 2 (i' := 45) (ls' := [some (.ref 117), some (.int x1)]) (st' := [.int 40, .ref 117]) rfl ?_
                    obtain ⟨s66, hc65, h⟩ := bu_so h
                    have hq64 : Q 1 sio tt cc d 141 0 [some (.ref 117), some (.int 40)] [] s62 (.inl none, s66) := dt141 (by omega) hq60.1  hc65
                    refine Q.callV (gC_vi zm142 (show zM142.2.2.2.2.2[45]? = some (148, 3, .invokevirtual 72, [0, 141, 1, 8]) from rfl) zm141 (hq60.1.lt (a := 117) (by decide)) (hq60.1.T (a := 117) (p := (8, 11)) 39 rfl rfl) rfl (show aCr 1 117 [.int 40, .ref 117] 2 = some ([some (.ref 117), some (.int 40)], []) from rfl)) hq64 ?_
                    have hr67 : aK s66 b2 3 := hq64.2.1.k hr63
                    refine Q.run zm142 1 (i' := 51) (ls' := [some (.ref 117), some (.int x1)]) (st' := []) rfl ?_
                    cases h
                    exact Q.ret (A.rv zm142 (show zM142.2.2.2.2.2[51]? = some (163, 1, .return_, []) from rfl) rfl) hq64.1
                  · rw [if_neg hc59] at h
                    by_cases hc68 : r6 = 8
                    · rw [if_pos hc68] at h
                      refine Q.map (A.ts (gI_of zm142 (e := (9, 59, .tableswitch 154 0 10 #[59, 67, 75, 95, 123, 123, 59, 131, 154, 154, 145], [51, 6, 10, 14, 23, 36, 36, 6, 40, 51, 51, 47])) rfl) (t := 51) (by rw [hc68] <;> decide)) ?_
                      cases h
                      exact Q.ret (A.rv zm142 (show zM142.2.2.2.2.2[51]? = some (163, 1, .return_, []) from rfl) rfl) hl
                    · rw [if_neg hc68] at h
                      by_cases hc69 : r6 = 9
                      · rw [if_pos hc69] at h
                        refine Q.map (A.ts (gI_of zm142 (e := (9, 59, .tableswitch 154 0 10 #[59, 67, 75, 95, 123, 123, 59, 131, 154, 154, 145], [51, 6, 10, 14, 23, 36, 36, 6, 40, 51, 51, 47])) rfl) (t := 51) (by rw [hc69] <;> decide)) ?_
                        cases h
                        exact Q.ret (A.rv zm142 (show zM142.2.2.2.2.2[51]? = some (163, 1, .return_, []) from rfl) rfl) hl
                      · rw [if_neg hc69] at h
                        by_cases hc70 : r6 = 10
                        · rw [if_pos hc70] at h
                          refine Q.map (A.ts (gI_of zm142 (e := (9, 59, .tableswitch 154 0 10 #[59, 67, 75, 95, 123, 123, 59, 131, 154, 154, 145], [51, 6, 10, 14, 23, 36, 36, 6, 40, 51, 51, 47])) rfl) (t := 47) (by rw [hc70] <;> decide)) ?_
                          refine Q.run zm142 2 (i' := 49) (ls' := [some (.ref 117), some (.int x1)]) (st' := [.int 45, .ref 117]) rfl ?_
                          obtain ⟨s73, hc72, h⟩ := bu_so h
                          have hq71 : Q 1 sio tt cc d 141 0 [some (.ref 117), some (.int 45)] [] s (.inl none, s73) := dt141 (by omega) hl  hc72
                          refine Q.callV (gC_vi zm142 (show zM142.2.2.2.2.2[49]? = some (157, 3, .invokevirtual 72, [0, 141, 1, 8]) from rfl) zm141 (hl.lt (a := 117) (by decide)) (hl.T (a := 117) (p := (8, 11)) 39 rfl rfl) rfl (show aCr 1 117 [.int 45, .ref 117] 2 = some ([some (.ref 117), some (.int 45)], []) from rfl)) hq71 ?_
                          have hr74 : aK s73 b2 3 := hq71.2.1.k hr3
                          refine Q.run zm142 1 (i' := 51) (ls' := [some (.ref 117), some (.int x1)]) (st' := []) rfl ?_
                          cases h
                          exact Q.ret (A.rv zm142 (show zM142.2.2.2.2.2[51]? = some (163, 1, .return_, []) from rfl) rfl) hq71.1
                        · rw [if_neg hc70] at h
                          refine Q.map (A.ts (gI_of zm142 (e := (9, 59, .tableswitch 154 0 10 #[59, 67, 75, 95, 123, 123, 59, 131, 154, 154, 145], [51, 6, 10, 14, 23, 36, 36, 6, 40, 51, 51, 47])) rfl) (t := 51) (by have := (show r6.toInt ≠ 0 ∧ r6.toInt ≠ 1 ∧ r6.toInt ≠ 2 ∧ r6.toInt ≠ 3 ∧ r6.toInt ≠ 4 ∧ r6.toInt ≠ 5 ∧ r6.toInt ≠ 6 ∧ r6.toInt ≠ 7 ∧ r6.toInt ≠ 8 ∧ r6.toInt ≠ 9 ∧ r6.toInt ≠ 10 from ⟨i32_ne (n := 0) hc7 (by decide), i32_ne (n := 1) hc12 (by decide), i32_ne (n := 2) hc17 (by decide), i32_ne (n := 3) hc36 (by decide), i32_ne (n := 4) hc44 (by decide), i32_ne (n := 5) hc49 (by decide), i32_ne (n := 6) hc54 (by decide), i32_ne (n := 7) hc59 (by decide), i32_ne (n := 8) hc68 (by decide), i32_ne (n := 9) hc69 (by decide), i32_ne (n := 10) hc70 (by decide)⟩); rw [if_pos]; omega)) ?_
                          cases h
                          exact Q.ret (A.rv zm142 (show zM142.2.2.2.2.2[51]? = some (163, 1, .return_, []) from rfl) rfl) hl
end
