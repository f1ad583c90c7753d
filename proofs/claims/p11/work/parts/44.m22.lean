/-! 239 FormulaTreesModel.quotes(I)Z -/
set_option maxRecDepth 100000 in
theorem zm239 : zP[239]? = some zM239 := rfl
def dm239_96 (s : aS) : Option (Int32) :=
  some 1
set_option maxRecDepth 100000 in
theorem dt239_96 {sio : Bool} {tt : Nat} {cc : Nat → Nat → Int32} {d : Nat} (hd : 3 ≤ d) {x1 : Int32} {x2 : Int32} {x3 : Int32} {x4 : Int32} {x5 : Int32} {g6 : Option Value} {s : aS} (hl : Ly tt cc s) {o : Int32} (h : dm239_96  s = some o) : Q 2 sio tt cc d 239 96 [some (.ref 121), some (.int x1), some (.int x2), some (.int x3), some (.int x4), some (.int x5), g6] [] s (.inl (some (.int o)), s) := by
  unfold dm239_96 at h
  obtain ⟨d, rfl⟩ : ∃ e, d = e + 1 := ⟨d - 1, by omega⟩
  refine Q.run zm239 2 (i' := 99) (ls' := [some (.ref 121), some (.int x1), some (.int x2), some (.int x3), some (.int x4), some (.int x5), g6]) (st' := [.int 1]) rfl ?_
  cases h
  exact Q.ret (A.ri zm239 (show zM239.2.2.2.2.2[99]? = some (183, 1, .ireturn, []) from rfl) rfl rfl) hl
def dm239_57 (k14 : Int32 → Int32 → Int32 → Int32 → Int32 → aS → Option (Int32)) (x1 : Int32) (x2 : Int32) (x3 : Int32) (x5 : Int32) (y0 : Int32) (s : aS) : Option (Int32) :=
  k14 x1 x2 x3 y0 (x5 + 1) s
set_option maxRecDepth 100000 in
theorem dt239_57 {sio : Bool} {tt : Nat} {cc : Nat → Nat → Int32} {d : Nat} (hd : 3 ≤ d) {k14 : Int32 → Int32 → Int32 → Int32 → Int32 → aS → Option (Int32)} (hk14 : ∀ {x1 : Int32} {x2 : Int32} {x3 : Int32} {x4 : Int32} {x5 : Int32} {g6 : Option Value} {s : aS}, Ly tt cc s → ∀ {o : Int32}, k14 x1 x2 x3 x4 x5 s = some o → Q 2 sio tt cc d 239 14 [some (.ref 121), some (.int x1), some (.int x2), some (.int x3), some (.int x4), some (.int x5), g6] [] s (.inl (some (.int o)), s)) {x1 : Int32} {x2 : Int32} {x3 : Int32} {x5 : Int32} {y0 : Int32} {x4 : Int32} {x6 : Int32} {s : aS} (hl : Ly tt cc s) {o : Int32} (h : dm239_57 k14 x1 x2 x3 x5 y0 s = some o) : Q 2 sio tt cc d 239 57 [some (.ref 121), some (.int x1), some (.int x2), some (.int x3), some (.int x4), some (.int x5), some (.int x6)] [.int y0] s (.inl (some (.int o)), s) := by
  unfold dm239_57 at h
  obtain ⟨d, rfl⟩ : ∃ e, d = e + 1 := ⟨d - 1, by omega⟩
  refine Q.run zm239 3 (i' := 14) (ls' := [some (.ref 121), some (.int x1), some (.int x2), some (.int x3), some (.int y0), some (.int (x5 + 1)), some (.int x6)]) (st' := []) rfl ?_
  exact hk14 hl  h
def dm239_79 (x1 : Int32) (x2 : Int32) (y0 : Int32) (s : aS) : Option (Int32) :=
  if x2 = 0 then
    dm239_96 s
  else
    if y0 = 0 then
      bu (dm240 x1 1414681925 4 s) fun r5 =>
      if r5 = 0 then
        bu (dm240 x1 301743231813 5 s) fun r9 =>
        if r9 = 0 then
          some 0
        else
          dm239_96 s
      else
        dm239_96 s
    else
      dm239_96 s
set_option maxRecDepth 100000 in
theorem dt239_79 {sio : Bool} {tt : Nat} {cc : Nat → Nat → Int32} {d : Nat} (hd : 3 ≤ d) {x1 : Int32} {x2 : Int32} {y0 : Int32} {x3 : Int32} {x4 : Int32} {x5 : Int32} {g6 : Option Value} {s : aS} (hl : Ly tt cc s) {o : Int32} (h : dm239_79  x1 x2 y0 s = some o) : Q 2 sio tt cc d 239 79 [some (.ref 121), some (.int x1), some (.int x2), some (.int x3), some (.int x4), some (.int x5), g6] [.int y0] s (.inl (some (.int o)), s) := by
  unfold dm239_79 at h
  obtain ⟨d, rfl⟩ : ∃ e, d = e + 1 := ⟨d - 1, by omega⟩
  refine Q.run zm239 2 (i' := 81) (ls' := [some (.ref 121), some (.int x1), some (.int x2), some (.int x3), some (.int x4), some (.int y0), g6]) (st' := [.int x2]) rfl ?_
  by_cases hc1 : x2 = 0
  · rw [if_pos hc1] at h
    refine Q.map (A.zT (gI_of zm239 (e := (146, 3, .ifCond .eq 32, [96])) rfl) (decide_eq_true hc1)) ?_
    exact dt239_96 hd hl  h
  · rw [if_neg hc1] at h
    refine Q.map (A.zF (gI_of zm239 (e := (146, 3, .ifCond .eq 32, [96])) rfl) (fun q => hc1 (of_decide_eq_true q))) ?_
    refine Q.run zm239 1 (i' := 83) (ls' := [some (.ref 121), some (.int x1), some (.int x2), some (.int x3), some (.int x4), some (.int y0), g6]) (st' := [.int y0]) rfl ?_
    by_cases hc2 : y0 = 0
    · rw [if_pos hc2] at h
      refine Q.map (A.zF (gI_of zm239 (e := (151, 3, .ifCond .ne 27, [96])) rfl) (fun q => of_decide_eq_true q hc2)) ?_
      refine Q.run zm239 4 (i' := 88) (ls' := [some (.ref 121), some (.int x1), some (.int x2), some (.int x3), some (.int x4), some (.int y0), g6]) (st' := [.int 4, .long 1414681925, .int x1, .ref 121]) rfl ?_
      obtain ⟨r5, hc4, h⟩ := bu_so h
      have hq3 : Q 2 sio tt cc d 240 0 [some (.ref 121), some (.int x1), some (.long 1414681925), none, some (.int 4), none, none] [] s (.inl (some (.int r5)), s) := dt240 (by omega) hl  hc4
      refine Q.callI (gC_vi zm239 (show zM239.2.2.2.2.2[88]? = some (160, 3, .invokevirtual 343, [0, 240, 3, 9]) from rfl) zm240 (hl.lt (a := 121) (by decide)) (hl.T (a := 121) (p := (9, 45)) 43 rfl rfl) rfl (show aCr 3 121 [.int 4, .long 1414681925, .int x1, .ref 121] 7 = some ([some (.ref 121), some (.int x1), some (.long 1414681925), none, some (.int 4), none, none], []) from rfl)) hq3 ?_
      by_cases hc6 : r5 = 0
      · rw [if_pos hc6] at h
        refine Q.map (A.zF (gI_of zm239 (e := (163, 3, .ifCond .ne 15, [96])) rfl) (fun q => of_decide_eq_true q hc6)) ?_
        refine Q.run zm239 4 (i' := 94) (ls' := [some (.ref 121), some (.int x1), some (.int x2), some (.int x3), some (.int x4), some (.int y0), g6]) (st' := [.int 5, .long 301743231813, .int x1, .ref 121]) rfl ?_
        obtain ⟨r9, hc8, h⟩ := bu_so h
        have hq7 : Q 2 sio tt cc d 240 0 [some (.ref 121), some (.int x1), some (.long 301743231813), none, some (.int 5), none, none] [] s (.inl (some (.int r9)), s) := dt240 (by omega) hl  hc8
        refine Q.callI (gC_vi zm239 (show zM239.2.2.2.2.2[94]? = some (172, 3, .invokevirtual 343, [0, 240, 3, 9]) from rfl) zm240 (hl.lt (a := 121) (by decide)) (hl.T (a := 121) (p := (9, 45)) 43 rfl rfl) rfl (show aCr 3 121 [.int 5, .long 301743231813, .int x1, .ref 121] 7 = some ([some (.ref 121), some (.int x1), some (.long 301743231813), none, some (.int 5), none, none], []) from rfl)) hq7 ?_
        by_cases hc10 : r9 = 0
        · rw [if_pos hc10] at h
          refine Q.map (A.zT (gI_of zm239 (e := (175, 3, .ifCond .eq 7, [98])) rfl) (decide_eq_true hc10)) ?_
          refine Q.run zm239 1 (i' := 99) (ls' := [some (.ref 121), some (.int x1), some (.int x2), some (.int x3), some (.int x4), some (.int y0), g6]) (st' := [.int 0]) rfl ?_
          cases h
          exact Q.ret (A.ri zm239 (show zM239.2.2.2.2.2[99]? = some (183, 1, .ireturn, []) from rfl) rfl rfl) hl
        · rw [if_neg hc10] at h
          refine Q.map (A.zF (gI_of zm239 (e := (175, 3, .ifCond .eq 7, [98])) rfl) (fun q => hc10 (of_decide_eq_true q))) ?_
          exact dt239_96 hd hl  h
      · rw [if_neg hc6] at h
        refine Q.map (A.zT (gI_of zm239 (e := (163, 3, .ifCond .ne 15, [96])) rfl) (decide_eq_true hc6)) ?_
        exact dt239_96 hd hl  h
    · rw [if_neg hc2] at h
      refine Q.map (A.zT (gI_of zm239 (e := (151, 3, .ifCond .ne 27, [96])) rfl) (decide_eq_true hc2)) ?_
      exact dt239_96 hd hl  h
def dm239_48 (k14 : Int32 → Int32 → Int32 → Int32 → Int32 → aS → Option (Int32)) (x1 : Int32) (x2 : Int32) (x4 : Int32) (x5 : Int32) (x6 : Int32) (y0 : Int32) (s : aS) : Option (Int32) :=
  bu (dm196 x6) fun r3 =>
  if r3 = 0 then
    dm239_57 k14 x1 x2 y0 x5 x4 s
  else
    dm239_57 k14 x1 x2 y0 x5 (x4 + 1) s
set_option maxRecDepth 100000 in
theorem dt239_48 {sio : Bool} {tt : Nat} {cc : Nat → Nat → Int32} {d : Nat} (hd : 3 ≤ d) {k14 : Int32 → Int32 → Int32 → Int32 → Int32 → aS → Option (Int32)} (hk14 : ∀ {x1 : Int32} {x2 : Int32} {x3 : Int32} {x4 : Int32} {x5 : Int32} {g6 : Option Value} {s : aS}, Ly tt cc s → ∀ {o : Int32}, k14 x1 x2 x3 x4 x5 s = some o → Q 2 sio tt cc d 239 14 [some (.ref 121), some (.int x1), some (.int x2), some (.int x3), some (.int x4), some (.int x5), g6] [] s (.inl (some (.int o)), s)) {x1 : Int32} {x2 : Int32} {x4 : Int32} {x5 : Int32} {x6 : Int32} {y0 : Int32} {x3 : Int32} {s : aS} (hl : Ly tt cc s) {o : Int32} (h : dm239_48 k14 x1 x2 x4 x5 x6 y0 s = some o) : Q 2 sio tt cc d 239 48 [some (.ref 121), some (.int x1), some (.int x2), some (.int x3), some (.int x4), some (.int x5), some (.int x6)] [.int y0] s (.inl (some (.int o)), s) := by
  unfold dm239_48 at h
  obtain ⟨d, rfl⟩ : ∃ e, d = e + 1 := ⟨d - 1, by omega⟩
  refine Q.run zm239 2 (i' := 50) (ls' := [some (.ref 121), some (.int x1), some (.int x2), some (.int y0), some (.int x4), some (.int x5), some (.int x6)]) (st' := [.int x6]) rfl ?_
  obtain ⟨r3, hc2, h⟩ := bu_so h
  have hq1 : Q 2 sio tt cc d 196 0 [some (.int x6)] [] s (.inl (some (.int r3)), s) := dt196 (by omega) hl  hc2
  refine Q.callI (gC_st zm239 (show zM239.2.2.2.2.2[50]? = some (87, 3, .invokestatic 100, [0, 196, 1]) from rfl) zm196 (show aC 1 [.int x6] 1 = some ([some (.int x6)], []) from rfl)) hq1 ?_
  by_cases hc4 : r3 = 0
  · rw [if_pos hc4] at h
    refine Q.map (A.zT (gI_of zm239 (e := (90, 3, .ifCond .eq 10, [56])) rfl) (decide_eq_true hc4)) ?_
    refine Q.run zm239 1 (i' := 57) (ls' := [some (.ref 121), some (.int x1), some (.int x2), some (.int y0), some (.int x4), some (.int x5), some (.int x6)]) (st' := [.int x4]) rfl ?_
    exact dt239_57 hd hk14 hl  h
  · rw [if_neg hc4] at h
    refine Q.map (A.zF (gI_of zm239 (e := (90, 3, .ifCond .eq 10, [56])) rfl) (fun q => hc4 (of_decide_eq_true q))) ?_
    refine Q.run zm239 4 (i' := 57) (ls' := [some (.ref 121), some (.int x1), some (.int x2), some (.int y0), some (.int x4), some (.int x5), some (.int x6)]) (st' := [.int (x4 + 1)]) rfl ?_
    exact dt239_57 hd hk14 hl  h
def dm239_78 (x1 : Int32) (x2 : Int32) (s : aS) : Option (Int32) :=
  dm239_79 x1 x2 0 s
set_option maxRecDepth 100000 in
theorem dt239_78 {sio : Bool} {tt : Nat} {cc : Nat → Nat → Int32} {d : Nat} (hd : 3 ≤ d) {x1 : Int32} {x2 : Int32} {x3 : Int32} {x4 : Int32} {x5 : Int32} {g6 : Option Value} {s : aS} (hl : Ly tt cc s) {o : Int32} (h : dm239_78  x1 x2 s = some o) : Q 2 sio tt cc d 239 78 [some (.ref 121), some (.int x1), some (.int x2), some (.int x3), some (.int x4), some (.int x5), g6] [] s (.inl (some (.int o)), s) := by
  unfold dm239_78 at h
  obtain ⟨d, rfl⟩ : ∃ e, d = e + 1 := ⟨d - 1, by omega⟩
  refine Q.run zm239 1 (i' := 79) (ls' := [some (.ref 121), some (.int x1), some (.int x2), some (.int x3), some (.int x4), some (.int x5), g6]) (st' := [.int 0]) rfl ?_
  exact dt239_79 hd hl  h
def dm239_47 (k14 : Int32 → Int32 → Int32 → Int32 → Int32 → aS → Option (Int32)) (x1 : Int32) (x2 : Int32) (x3 : Int32) (x4 : Int32) (x5 : Int32) (x6 : Int32) (s : aS) : Option (Int32) :=
  dm239_48 k14 x1 x2 x4 x5 x6 x3 s
set_option maxRecDepth 100000 in
theorem dt239_47 {sio : Bool} {tt : Nat} {cc : Nat → Nat → Int32} {d : Nat} (hd : 3 ≤ d) {k14 : Int32 → Int32 → Int32 → Int32 → Int32 → aS → Option (Int32)} (hk14 : ∀ {x1 : Int32} {x2 : Int32} {x3 : Int32} {x4 : Int32} {x5 : Int32} {g6 : Option Value} {s : aS}, Ly tt cc s → ∀ {o : Int32}, k14 x1 x2 x3 x4 x5 s = some o → Q 2 sio tt cc d 239 14 [some (.ref 121), some (.int x1), some (.int x2), some (.int x3), some (.int x4), some (.int x5), g6] [] s (.inl (some (.int o)), s)) {x1 : Int32} {x2 : Int32} {x3 : Int32} {x4 : Int32} {x5 : Int32} {x6 : Int32} {s : aS} (hl : Ly tt cc s) {o : Int32} (h : dm239_47 k14 x1 x2 x3 x4 x5 x6 s = some o) : Q 2 sio tt cc d 239 47 [some (.ref 121), some (.int x1), some (.int x2), some (.int x3), some (.int x4), some (.int x5), some (.int x6)] [] s (.inl (some (.int o)), s) := by
  unfold dm239_47 at h
  obtain ⟨d, rfl⟩ : ∃ e, d = e + 1 := ⟨d - 1, by omega⟩
  refine Q.run zm239 1 (i' := 48) (ls' := [some (.ref 121), some (.int x1), some (.int x2), some (.int x3), some (.int x4), some (.int x5), some (.int x6)]) (st' := [.int x3]) rfl ?_
  exact dt239_48 hd hk14 hl  h
def dm239_37 (k14 : Int32 → Int32 → Int32 → Int32 → Int32 → aS → Option (Int32)) (x1 : Int32) (x3 : Int32) (x4 : Int32) (x5 : Int32) (x6 : Int32) (y0 : Int32) (s : aS) : Option (Int32) :=
  bu (dm198 x6) fun r3 =>
  if r3 = 0 then
    dm239_47 k14 x1 y0 x3 x4 x5 x6 s
  else
    if x4 = 0 then
      dm239_48 k14 x1 y0 x4 x5 x6 (x3 + 1) s
    else
      dm239_47 k14 x1 y0 x3 x4 x5 x6 s
set_option maxRecDepth 100000 in
theorem dt239_37 {sio : Bool} {tt : Nat} {cc : Nat → Nat → Int32} {d : Nat} (hd : 3 ≤ d) {k14 : Int32 → Int32 → Int32 → Int32 → Int32 → aS → Option (Int32)} (hk14 : ∀ {x1 : Int32} {x2 : Int32} {x3 : Int32} {x4 : Int32} {x5 : Int32} {g6 : Option Value} {s : aS}, Ly tt cc s → ∀ {o : Int32}, k14 x1 x2 x3 x4 x5 s = some o → Q 2 sio tt cc d 239 14 [some (.ref 121), some (.int x1), some (.int x2), some (.int x3), some (.int x4), some (.int x5), g6] [] s (.inl (some (.int o)), s)) {x1 : Int32} {x3 : Int32} {x4 : Int32} {x5 : Int32} {x6 : Int32} {y0 : Int32} {x2 : Int32} {s : aS} (hl : Ly tt cc s) {o : Int32} (h : dm239_37 k14 x1 x3 x4 x5 x6 y0 s = some o) : Q 2 sio tt cc d 239 37 [some (.ref 121), some (.int x1), some (.int x2), some (.int x3), some (.int x4), some (.int x5), some (.int x6)] [.int y0] s (.inl (some (.int o)), s) := by
  unfold dm239_37 at h
  obtain ⟨d, rfl⟩ : ∃ e, d = e + 1 := ⟨d - 1, by omega⟩
  refine Q.run zm239 2 (i' := 39) (ls' := [some (.ref 121), some (.int x1), some (.int y0), some (.int x3), some (.int x4), some (.int x5), some (.int x6)]) (st' := [.int x6]) rfl ?_
  obtain ⟨r3, hc2, h⟩ := bu_so h
  have hq1 : Q 2 sio tt cc d 198 0 [some (.int x6)] [] s (.inl (some (.int r3)), s) := dt198 (by omega) hl  hc2
  refine Q.callI (gC_st zm239 (show zM239.2.2.2.2.2[39]? = some (66, 3, .invokestatic 93, [0, 198, 1]) from rfl) zm198 (show aC 1 [.int x6] 1 = some ([some (.int x6)], []) from rfl)) hq1 ?_
  by_cases hc4 : r3 = 0
  · rw [if_pos hc4] at h
    refine Q.map (A.zT (gI_of zm239 (e := (69, 3, .ifCond .eq 14, [47])) rfl) (decide_eq_true hc4)) ?_
    exact dt239_47 hd hk14 hl  h
  · rw [if_neg hc4] at h
    refine Q.map (A.zF (gI_of zm239 (e := (69, 3, .ifCond .eq 14, [47])) rfl) (fun q => hc4 (of_decide_eq_true q))) ?_
    refine Q.run zm239 1 (i' := 42) (ls' := [some (.ref 121), some (.int x1), some (.int y0), some (.int x3), some (.int x4), some (.int x5), some (.int x6)]) (st' := [.int x4]) rfl ?_
    by_cases hc5 : x4 = 0
    · rw [if_pos hc5] at h
      refine Q.map (A.zF (gI_of zm239 (e := (74, 3, .ifCond .ne 9, [47])) rfl) (fun q => of_decide_eq_true q hc5)) ?_
      refine Q.run zm239 4 (i' := 48) (ls' := [some (.ref 121), some (.int x1), some (.int y0), some (.int x3), some (.int x4), some (.int x5), some (.int x6)]) (st' := [.int (x3 + 1)]) rfl ?_
      exact dt239_48 hd hk14 hl  h
    · rw [if_neg hc5] at h
      refine Q.map (A.zT (gI_of zm239 (e := (74, 3, .ifCond .ne 9, [47])) rfl) (decide_eq_true hc5)) ?_
      exact dt239_47 hd hk14 hl  h
def dm239_36 (k14 : Int32 → Int32 → Int32 → Int32 → Int32 → aS → Option (Int32)) (x1 : Int32) (x3 : Int32) (x4 : Int32) (x5 : Int32) (x6 : Int32) (s : aS) : Option (Int32) :=
  dm239_37 k14 x1 x3 x4 x5 x6 0 s
set_option maxRecDepth 100000 in
theorem dt239_36 {sio : Bool} {tt : Nat} {cc : Nat → Nat → Int32} {d : Nat} (hd : 3 ≤ d) {k14 : Int32 → Int32 → Int32 → Int32 → Int32 → aS → Option (Int32)} (hk14 : ∀ {x1 : Int32} {x2 : Int32} {x3 : Int32} {x4 : Int32} {x5 : Int32} {g6 : Option Value} {s : aS}, Ly tt cc s → ∀ {o : Int32}, k14 x1 x2 x3 x4 x5 s = some o → Q 2 sio tt cc d 239 14 [some (.ref 121), some (.int x1), some (.int x2), some (.int x3), some (.int x4), some (.int x5), g6] [] s (.inl (some (.int o)), s)) {x1 : Int32} {x3 : Int32} {x4 : Int32} {x5 : Int32} {x6 : Int32} {x2 : Int32} {s : aS} (hl : Ly tt cc s) {o : Int32} (h : dm239_36 k14 x1 x3 x4 x5 x6 s = some o) : Q 2 sio tt cc d 239 36 [some (.ref 121), some (.int x1), some (.int x2), some (.int x3), some (.int x4), some (.int x5), some (.int x6)] [] s (.inl (some (.int o)), s) := by
  unfold dm239_36 at h
  obtain ⟨d, rfl⟩ : ∃ e, d = e + 1 := ⟨d - 1, by omega⟩
  refine Q.run zm239 1 (i' := 37) (ls' := [some (.ref 121), some (.int x1), some (.int x2), some (.int x3), some (.int x4), some (.int x5), some (.int x6)]) (st' := [.int 0]) rfl ?_
  exact dt239_37 hd hk14 hl  h
def dm239_14 : Nat → Int32 → Int32 → Int32 → Int32 → Int32 → aS → Option (Int32)
  | 0, _, _, _, _, _, _ => none
  | n + 1, x1, x2, x3, x4, x5, s =>
    if aB x1 8 then
      if (sI s 123 (jN x1)) ≤ x5 then
        if x3 < 1 then
          dm239_78 x1 x2 s
        else
          if 3 < x3 then
            dm239_78 x1 x2 s
          else
            if x4 ≤ 0 then
              dm239_78 x1 x2 s
            else
              if aB x1 8 then
                if (x3 + x4) = (sI s 123 (jN x1)) then
                  dm239_79 x1 x2 1 s
                else
                  dm239_78 x1 x2 s
              else none
      else
        if aB ((32 * x1) + x5) 256 then
          if x2 = 0 then
            dm239_36 (dm239_14 n) x1 x3 x4 x5 (sI s 124 (jN ((32 * x1) + x5))) s
          else
            bu (dm211 (sI s 124 (jN ((32 * x1) + x5)))) fun r12 =>
            if r12 = 0 then
              dm239_36 (dm239_14 n) x1 x3 x4 x5 (sI s 124 (jN ((32 * x1) + x5))) s
            else
              dm239_37 (dm239_14 n) x1 x3 x4 x5 (sI s 124 (jN ((32 * x1) + x5))) 1 s
        else none
    else none
set_option maxRecDepth 100000 in
theorem dt239_14 {sio : Bool} {tt : Nat} {cc : Nat → Nat → Int32} {d : Nat} (hd : 3 ≤ d) : ∀ (n : Nat) {x1 : Int32} {x2 : Int32} {x3 : Int32} {x4 : Int32} {x5 : Int32} {g6 : Option Value} {s : aS} (_ : Ly tt cc s) {o : Int32} (_ : dm239_14  n x1 x2 x3 x4 x5 s = some o), Q 2 sio tt cc d 239 14 [some (.ref 121), some (.int x1), some (.int x2), some (.int x3), some (.int x4), some (.int x5), g6] [] s (.inl (some (.int o)), s) := by
  obtain ⟨d, rfl⟩ : ∃ e, d = e + 1 := ⟨d - 1, by omega⟩
  intro n
  induction n with
  | zero => intro x1 x2 x3 x4 x5 g6 s hl o h; rw [dm239_14] at h; cases h
  | succ n ih =>
    intro x1 x2 x3 x4 x5 g6 s hl o h
    rw [dm239_14] at h
    refine Q.run zm239 2 (i' := 16) (ls' := [some (.ref 121), some (.int x1), some (.int x2), some (.int x3), some (.int x4), some (.int x5), g6]) (st' := [.ref 121, .int x5]) rfl ?_
    refine Q.map (A.gf (gI_of zm239 (e := (24, 3, .getfield 13, [9, 4])) rfl) (hl.lt (a := 121) (by decide)) (hl.T (a := 121) (p := (9, 45)) 43 rfl rfl) (by decide) (hl.R 24 rfl)) ?_
    refine Q.run zm239 1 (i' := 18) (ls' := [some (.ref 121), some (.int x1), some (.int x2), some (.int x3), some (.int x4), some (.int x5), g6]) (st' := [.int x1, .ref 123, .int x5]) rfl ?_
    obtain ⟨hc1, h⟩ := ite_so h
    refine Q.map (A.ia (gI_of zm239 (e := (28, 1, .iaload, [])) rfl) (hl.lt (a := 123) (by decide)) (hl.T (a := 123) (p := (100, 8)) 45 rfl rfl) hc1) ?_
    by_cases hc2 : (sI s 123 (jN x1)) ≤ x5
    · rw [if_pos hc2] at h
      refine Q.map (A.bT (gI_of zm239 (e := (29, 3, .if_icmp .ge 81, [60])) rfl) (decide_eq_true hc2)) ?_
      refine Q.run zm239 2 (i' := 62) (ls' := [some (.ref 121), some (.int x1), some (.int x2), some (.int x3), some (.int x4), some (.int x5), g6]) (st' := [.int 1, .int x3]) rfl ?_
      by_cases hc3 : x3 < 1
      · rw [if_pos hc3] at h
        refine Q.map (A.bT (gI_of zm239 (e := (112, 3, .if_icmp .lt 30, [78])) rfl) (decide_eq_true hc3)) ?_
        exact dt239_78 hd hl  h
      · rw [if_neg hc3] at h
        refine Q.map (A.bF (gI_of zm239 (e := (112, 3, .if_icmp .lt 30, [78])) rfl) (fun q => hc3 (of_decide_eq_true q))) ?_
        refine Q.run zm239 2 (i' := 65) (ls' := [some (.ref 121), some (.int x1), some (.int x2), some (.int x3), some (.int x4), some (.int x5), g6]) (st' := [.int 3, .int x3]) rfl ?_
        by_cases hc4 : 3 < x3
        · rw [if_pos hc4] at h
          refine Q.map (A.bT (gI_of zm239 (e := (117, 3, .if_icmp .gt 25, [78])) rfl) (decide_eq_true hc4)) ?_
          exact dt239_78 hd hl  h
        · rw [if_neg hc4] at h
          refine Q.map (A.bF (gI_of zm239 (e := (117, 3, .if_icmp .gt 25, [78])) rfl) (fun q => hc4 (of_decide_eq_true q))) ?_
          refine Q.run zm239 1 (i' := 67) (ls' := [some (.ref 121), some (.int x1), some (.int x2), some (.int x3), some (.int x4), some (.int x5), g6]) (st' := [.int x4]) rfl ?_
          by_cases hc5 : x4 ≤ 0
          · rw [if_pos hc5] at h
            refine Q.map (A.zT (gI_of zm239 (e := (122, 3, .ifCond .le 20, [78])) rfl) (decide_eq_true hc5)) ?_
            exact dt239_78 hd hl  h
          · rw [if_neg hc5] at h
            refine Q.map (A.zF (gI_of zm239 (e := (122, 3, .ifCond .le 20, [78])) rfl) (fun q => hc5 (of_decide_eq_true q))) ?_
            refine Q.run zm239 4 (i' := 72) (ls' := [some (.ref 121), some (.int x1), some (.int x2), some (.int x3), some (.int x4), some (.int x5), g6]) (st' := [.ref 121, .int (x3 + x4)]) rfl ?_
            refine Q.map (A.gf (gI_of zm239 (e := (130, 3, .getfield 13, [9, 4])) rfl) (hl.lt (a := 121) (by decide)) (hl.T (a := 121) (p := (9, 45)) 43 rfl rfl) (by decide) (hl.R 24 rfl)) ?_
            refine Q.run zm239 1 (i' := 74) (ls' := [some (.ref 121), some (.int x1), some (.int x2), some (.int x3), some (.int x4), some (.int x5), g6]) (st' := [.int x1, .ref 123, .int (x3 + x4)]) rfl ?_
            obtain ⟨hc6, h⟩ := ite_so h
            refine Q.map (A.ia (gI_of zm239 (e := (134, 1, .iaload, [])) rfl) (hl.lt (a := 123) (by decide)) (hl.T (a := 123) (p := (100, 8)) 45 rfl rfl) hc6) ?_
            by_cases hc7 : (x3 + x4) = (sI s 123 (jN x1))
            · rw [if_pos hc7] at h
              refine Q.map (A.bF (gI_of zm239 (e := (135, 3, .if_icmp .ne 7, [78])) rfl) (fun q => of_decide_eq_true q hc7)) ?_
              refine Q.run zm239 2 (i' := 79) (ls' := [some (.ref 121), some (.int x1), some (.int x2), some (.int x3), some (.int x4), some (.int x5), g6]) (st' := [.int 1]) rfl ?_
              exact dt239_79 hd hl  h
            · rw [if_neg hc7] at h
              refine Q.map (A.bT (gI_of zm239 (e := (135, 3, .if_icmp .ne 7, [78])) rfl) (decide_eq_true hc7)) ?_
              exact dt239_78 hd hl  h
    · rw [if_neg hc2] at h
      refine Q.map (A.bF (gI_of zm239 (e := (29, 3, .if_icmp .ge 81, [60])) rfl) (fun q => hc2 (of_decide_eq_true q))) ?_
      refine Q.run zm239 1 (i' := 21) (ls' := [some (.ref 121), some (.int x1), some (.int x2), some (.int x3), some (.int x4), some (.int x5), g6]) (st' := [.ref 121]) rfl ?_
      refine Q.map (A.gf (gI_of zm239 (e := (33, 3, .getfield 16, [9, 5])) rfl) (hl.lt (a := 121) (by decide)) (hl.T (a := 121) (p := (9, 45)) 43 rfl rfl) (by decide) (hl.R 25 rfl)) ?_
      refine Q.run zm239 5 (i' := 27) (ls' := [some (.ref 121), some (.int x1), some (.int x2), some (.int x3), some (.int x4), some (.int x5), g6]) (st' := [.int ((32 * x1) + x5), .ref 124]) rfl ?_
      obtain ⟨hc8, h⟩ := ite_so h
      refine Q.map (A.ia (gI_of zm239 (e := (43, 1, .iaload, [])) rfl) (hl.lt (a := 124) (by decide)) (hl.T (a := 124) (p := (100, 256)) 46 rfl rfl) hc8) ?_
      refine Q.run zm239 2 (i' := 30) (ls' := [some (.ref 121), some (.int x1), some (.int x2), some (.int x3), some (.int x4), some (.int x5), some (.int (sI s 124 (jN ((32 * x1) + x5))))]) (st' := [.int x2]) rfl ?_
      by_cases hc9 : x2 = 0
      · rw [if_pos hc9] at h
        refine Q.map (A.zT (gI_of zm239 (e := (47, 3, .ifCond .eq 15, [36])) rfl) (decide_eq_true hc9)) ?_
        exact dt239_36 hd ih hl  h
      · rw [if_neg hc9] at h
        refine Q.map (A.zF (gI_of zm239 (e := (47, 3, .ifCond .eq 15, [36])) rfl) (fun q => hc9 (of_decide_eq_true q))) ?_
        refine Q.run zm239 1 (i' := 32) (ls' := [some (.ref 121), some (.int x1), some (.int x2), some (.int x3), some (.int x4), some (.int x5), some (.int (sI s 124 (jN ((32 * x1) + x5))))]) (st' := [.int (sI s 124 (jN ((32 * x1) + x5)))]) rfl ?_
        obtain ⟨r12, hc11, h⟩ := bu_so h
        have hq10 : Q 2 sio tt cc d 211 0 [some (.int (sI s 124 (jN ((32 * x1) + x5))))] [] s (.inl (some (.int r12)), s) := dt211 (by omega) hl  hc11
        refine Q.callI (gC_st zm239 (show zM239.2.2.2.2.2[32]? = some (52, 3, .invokestatic 228, [0, 211, 1]) from rfl) zm211 (show aC 1 [.int (sI s 124 (jN ((32 * x1) + x5)))] 1 = some ([some (.int (sI s 124 (jN ((32 * x1) + x5))))], []) from rfl)) hq10 ?_
        by_cases hc13 : r12 = 0
        · rw [if_pos hc13] at h
          refine Q.map (A.zT (gI_of zm239 (e := (55, 3, .ifCond .eq 7, [36])) rfl) (decide_eq_true hc13)) ?_
          exact dt239_36 hd ih hl  h
        · rw [if_neg hc13] at h
          refine Q.map (A.zF (gI_of zm239 (e := (55, 3, .ifCond .eq 7, [36])) rfl) (fun q => hc13 (of_decide_eq_true q))) ?_
          refine Q.run zm239 2 (i' := 37) (ls' := [some (.ref 121), some (.int x1), some (.int x2), some (.int x3), some (.int x4), some (.int x5), some (.int (sI s 124 (jN ((32 * x1) + x5))))]) (st' := [.int 1]) rfl ?_
          exact dt239_37 hd ih hl  h
def dm239 (x1 : Int32) (s : aS) : Option (Int32) :=
  if aB (32 * x1) 256 then
    bu (dm197 (sI s 124 (jN (32 * x1)))) fun r4 =>
    dm239_14 5000 x1 r4 0 0 0 s
  else none
set_option maxRecDepth 100000 in
theorem dt239 {sio : Bool} {tt : Nat} {cc : Nat → Nat → Int32} {d : Nat} (hd : 3 ≤ d) {x1 : Int32} {s : aS} (hl : Ly tt cc s) {o : Int32} (h : dm239  x1 s = some o) : Q 2 sio tt cc d 239 0 [some (.ref 121), some (.int x1), none, none, none, none, none] [] s (.inl (some (.int o)), s) := by
  unfold dm239 at h
  obtain ⟨d, rfl⟩ : ∃ e, d = e + 1 := ⟨d - 1, by omega⟩
  refine Q.run zm239 1 (i' := 1) (ls' := [some (.ref 121), some (.int x1), none, none, none, none, none]) (st' := [.ref 121]) rfl ?_
  refine Q.map (A.gf (gI_of zm239 (e := (1, 3, .getfield 16, [9, 5])) rfl) (hl.lt (a := 121) (by decide)) (hl.T (a := 121) (p := (9, 45)) 43 rfl rfl) (by decide) (hl.R 25 rfl)) ?_
  refine Q.run zm239 3 (i' := 5) (ls' := [some (.ref 121), some (.int x1), none, none, none, none, none]) (st' := [.int (32 * x1), .ref 124]) rfl ?_
  obtain ⟨hc1, h⟩ := ite_so h
  refine Q.map (A.ia (gI_of zm239 (e := (8, 1, .iaload, [])) rfl) (hl.lt (a := 124) (by decide)) (hl.T (a := 124) (p := (100, 256)) 46 rfl rfl) hc1) ?_
  obtain ⟨r4, hc3, h⟩ := bu_so h
  have hq2 : Q 2 sio tt cc d 197 0 [some (.int (sI s 124 (jN (32 * x1))))] [] s (.inl (some (.int r4)), s) := dt197 (by omega) hl  hc3
  refine Q.callI (gC_st zm239 (show zM239.2.2.2.2.2[6]? = some (9, 3, .invokestatic 97, [0, 197, 1]) from rfl) zm197 (show aC 1 [.int (sI s 124 (jN (32 * x1)))] 1 = some ([some (.int (sI s 124 (jN (32 * x1))))], []) from rfl)) hq2 ?_
  refine Q.run zm239 7 (i' := 14) (ls' := [some (.ref 121), some (.int x1), some (.int r4), some (.int 0), some (.int 0), some (.int 0), none]) (st' := []) rfl ?_
  exact dt239_14 hd _ hl  h
/-! 238 FormulaTreesModel.putPrefix(I)V -/
set_option maxRecDepth 100000 in
theorem zm238 : zP[238]? = some zM238 := rfl
def dm238_45 (s : aS) : Option (aS) :=
  bu (dm235 33 s) fun s3 =>
  some s3
set_option maxRecDepth 100000 in
theorem dt238_45 {sio : Bool} {tt : Nat} {cc : Nat → Nat → Int32} {d : Nat} (hd : 4 ≤ d) {x1 : Int32} {x2 : Int32} {x3 : Int32} {g4 : Option Value} {s : aS} (hl : Ly tt cc s) {o : aS} (h : dm238_45  s = some o) : Q 2 sio tt cc d 238 45 [some (.ref 121), some (.int x1), some (.int x2), some (.int x3), g4] [] s (.inl none, o) := by
  unfold dm238_45 at h
  obtain ⟨d, rfl⟩ : ∃ e, d = e + 1 := ⟨d - 1, by omega⟩
  refine Q.run zm238 2 (i' := 47) (ls' := [some (.ref 121), some (.int x1), some (.int x2), some (.int x3), g4]) (st' := [.int 33, .ref 121]) rfl ?_
  obtain ⟨s3, hc2, h⟩ := bu_so h
  have hq1 : Q 2 sio tt cc d 235 0 [some (.ref 121), some (.int 33)] [] s (.inl none, s3) := dt235 (by omega) hl  hc2
  refine Q.callV (gC_vi zm238 (show zM238.2.2.2.2.2[47]? = some (84, 3, .invokevirtual 337, [0, 235, 1, 9]) from rfl) zm235 (hl.lt (a := 121) (by decide)) (hl.T (a := 121) (p := (9, 45)) 43 rfl rfl) rfl (show aCr 1 121 [.int 33, .ref 121] 2 = some ([some (.ref 121), some (.int 33)], []) from rfl)) hq1 ?_
  cases h
  exact Q.ret (A.rv zm238 (show zM238.2.2.2.2.2[48]? = some (87, 1, .return_, []) from rfl) rfl) hq1.1
def dm238_35 (k14 : Int32 → Int32 → Int32 → aS → Option (aS)) (x1 : Int32) (x2 : Int32) (x3 : Int32) (x4 : Int32) (s : aS) : Option (aS) :=
  bu (dm235 x4 s) fun s3 =>
  k14 x1 x2 (x3 + 1) s3
set_option maxRecDepth 100000 in
theorem dt238_35 {sio : Bool} {tt : Nat} {cc : Nat → Nat → Int32} {d : Nat} (hd : 4 ≤ d) {k14 : Int32 → Int32 → Int32 → aS → Option (aS)} (hk14 : ∀ {x1 : Int32} {x2 : Int32} {x3 : Int32} {g4 : Option Value} {s : aS}, Ly tt cc s → ∀ {o : aS}, k14 x1 x2 x3 s = some o → Q 2 sio tt cc d 238 14 [some (.ref 121), some (.int x1), some (.int x2), some (.int x3), g4] [] s (.inl none, o)) {x1 : Int32} {x2 : Int32} {x3 : Int32} {x4 : Int32} {s : aS} (hl : Ly tt cc s) {o : aS} (h : dm238_35 k14 x1 x2 x3 x4 s = some o) : Q 2 sio tt cc d 238 35 [some (.ref 121), some (.int x1), some (.int x2), some (.int x3), some (.int x4)] [] s (.inl none, o) := by
  unfold dm238_35 at h
  obtain ⟨d, rfl⟩ : ∃ e, d = e + 1 := ⟨d - 1, by omega⟩
  refine Q.run zm238 2 (i' := 37) (ls' := [some (.ref 121), some (.int x1), some (.int x2), some (.int x3), some (.int x4)]) (st' := [.int x4, .ref 121]) rfl ?_
  obtain ⟨s3, hc2, h⟩ := bu_so h
  have hq1 : Q 2 sio tt cc d 235 0 [some (.ref 121), some (.int x4)] [] s (.inl none, s3) := dt235 (by omega) hl  hc2
  refine Q.callV (gC_vi zm238 (show zM238.2.2.2.2.2[37]? = some (62, 3, .invokevirtual 337, [0, 235, 1, 9]) from rfl) zm235 (hl.lt (a := 121) (by decide)) (hl.T (a := 121) (p := (9, 45)) 43 rfl rfl) rfl (show aCr 1 121 [.int x4, .ref 121] 2 = some ([some (.ref 121), some (.int x4)], []) from rfl)) hq1 ?_
  refine Q.run zm238 2 (i' := 14) (ls' := [some (.ref 121), some (.int x1), some (.int x2), some (.int (x3 + 1)), some (.int x4)]) (st' := []) rfl ?_
  exact hk14 hq1.1  h
def dm238_14 : Nat → Int32 → Int32 → Int32 → aS → Option (aS)
  | 0, _, _, _, _ => none
  | n + 1, x1, x2, x3, s =>
    if aB x1 8 then
      if (sI s 123 (jN x1)) ≤ x3 then
        if x2 = 0 then
          dm238_45 s
        else
          bu (dm235 39 s) fun s6 =>
          dm238_45 s6
      else
        if aB ((32 * x1) + x3) 256 then
          if (sI s 124 (jN ((32 * x1) + x3))) = 39 then
            bu (dm235 39 s) fun s11 =>
            dm238_35 (dm238_14 n) x1 x2 x3 (sI s 124 (jN ((32 * x1) + x3))) s11
          else
            dm238_35 (dm238_14 n) x1 x2 x3 (sI s 124 (jN ((32 * x1) + x3))) s
        else none
    else none
set_option maxRecDepth 100000 in
theorem dt238_14 {sio : Bool} {tt : Nat} {cc : Nat → Nat → Int32} {d : Nat} (hd : 4 ≤ d) : ∀ (n : Nat) {x1 : Int32} {x2 : Int32} {x3 : Int32} {g4 : Option Value} {s : aS} (_ : Ly tt cc s) {o : aS} (_ : dm238_14  n x1 x2 x3 s = some o), Q 2 sio tt cc d 238 14 [some (.ref 121), some (.int x1), some (.int x2), some (.int x3), g4] [] s (.inl none, o) := by
  obtain ⟨d, rfl⟩ : ∃ e, d = e + 1 := ⟨d - 1, by omega⟩
  intro n
  induction n with
  | zero => intro x1 x2 x3 g4 s hl o h; rw [dm238_14] at h; cases h
  | succ n ih =>
    intro x1 x2 x3 g4 s hl o h
    rw [dm238_14] at h
    refine Q.run zm238 2 (i' := 16) (ls' := [some (.ref 121), some (.int x1), some (.int x2), some (.int x3), g4]) (st' := [.ref 121, .int x3]) rfl ?_
    refine Q.map (A.gf (gI_of zm238 (e := (25, 3, .getfield 13, [9, 4])) rfl) (hl.lt (a := 121) (by decide)) (hl.T (a := 121) (p := (9, 45)) 43 rfl rfl) (by decide) (hl.R 24 rfl)) ?_
    refine Q.run zm238 1 (i' := 18) (ls' := [some (.ref 121), some (.int x1), some (.int x2), some (.int x3), g4]) (st' := [.int x1, .ref 123, .int x3]) rfl ?_
    obtain ⟨hc1, h⟩ := ite_so h
    refine Q.map (A.ia (gI_of zm238 (e := (29, 1, .iaload, [])) rfl) (hl.lt (a := 123) (by decide)) (hl.T (a := 123) (p := (100, 8)) 45 rfl rfl) hc1) ?_
    by_cases hc2 : (sI s 123 (jN x1)) ≤ x3
    · rw [if_pos hc2] at h
      refine Q.map (A.bT (gI_of zm238 (e := (30, 3, .if_icmp .ge 41, [40])) rfl) (decide_eq_true hc2)) ?_
      refine Q.run zm238 1 (i' := 41) (ls' := [some (.ref 121), some (.int x1), some (.int x2), some (.int x3), g4]) (st' := [.int x2]) rfl ?_
      by_cases hc3 : x2 = 0
      · rw [if_pos hc3] at h
        refine Q.map (A.zT (gI_of zm238 (e := (72, 3, .ifCond .eq 9, [45])) rfl) (decide_eq_true hc3)) ?_
        exact dt238_45 hd hl  h
      · rw [if_neg hc3] at h
        refine Q.map (A.zF (gI_of zm238 (e := (72, 3, .ifCond .eq 9, [45])) rfl) (fun q => hc3 (of_decide_eq_true q))) ?_
        refine Q.run zm238 2 (i' := 44) (ls' := [some (.ref 121), some (.int x1), some (.int x2), some (.int x3), g4]) (st' := [.int 39, .ref 121]) rfl ?_
        obtain ⟨s6, hc5, h⟩ := bu_so h
        have hq4 : Q 2 sio tt cc d 235 0 [some (.ref 121), some (.int 39)] [] s (.inl none, s6) := dt235 (by omega) hl  hc5
        refine Q.callV (gC_vi zm238 (show zM238.2.2.2.2.2[44]? = some (78, 3, .invokevirtual 337, [0, 235, 1, 9]) from rfl) zm235 (hl.lt (a := 121) (by decide)) (hl.T (a := 121) (p := (9, 45)) 43 rfl rfl) rfl (show aCr 1 121 [.int 39, .ref 121] 2 = some ([some (.ref 121), some (.int 39)], []) from rfl)) hq4 ?_
        exact dt238_45 hd hq4.1  h
    · rw [if_neg hc2] at h
      refine Q.map (A.bF (gI_of zm238 (e := (30, 3, .if_icmp .ge 41, [40])) rfl) (fun q => hc2 (of_decide_eq_true q))) ?_
      refine Q.run zm238 1 (i' := 21) (ls' := [some (.ref 121), some (.int x1), some (.int x2), some (.int x3), g4]) (st' := [.ref 121]) rfl ?_
      refine Q.map (A.gf (gI_of zm238 (e := (34, 3, .getfield 16, [9, 5])) rfl) (hl.lt (a := 121) (by decide)) (hl.T (a := 121) (p := (9, 45)) 43 rfl rfl) (by decide) (hl.R 25 rfl)) ?_
      refine Q.run zm238 5 (i' := 27) (ls' := [some (.ref 121), some (.int x1), some (.int x2), some (.int x3), g4]) (st' := [.int ((32 * x1) + x3), .ref 124]) rfl ?_
      obtain ⟨hc7, h⟩ := ite_so h
      refine Q.map (A.ia (gI_of zm238 (e := (43, 1, .iaload, [])) rfl) (hl.lt (a := 124) (by decide)) (hl.T (a := 124) (p := (100, 256)) 46 rfl rfl) hc7) ?_
      refine Q.run zm238 3 (i' := 31) (ls' := [some (.ref 121), some (.int x1), some (.int x2), some (.int x3), some (.int (sI s 124 (jN ((32 * x1) + x3))))]) (st' := [.int 39, .int (sI s 124 (jN ((32 * x1) + x3)))]) rfl ?_
      by_cases hc8 : (sI s 124 (jN ((32 * x1) + x3))) = 39
      · rw [if_pos hc8] at h
        refine Q.map (A.bF (gI_of zm238 (e := (50, 3, .if_icmp .ne 9, [35])) rfl) (fun q => of_decide_eq_true q hc8)) ?_
        refine Q.run zm238 2 (i' := 34) (ls' := [some (.ref 121), some (.int x1), some (.int x2), some (.int x3), some (.int (sI s 124 (jN ((32 * x1) + x3))))]) (st' := [.int 39, .ref 121]) rfl ?_
        obtain ⟨s11, hc10, h⟩ := bu_so h
        have hq9 : Q 2 sio tt cc d 235 0 [some (.ref 121), some (.int 39)] [] s (.inl none, s11) := dt235 (by omega) hl  hc10
        refine Q.callV (gC_vi zm238 (show zM238.2.2.2.2.2[34]? = some (56, 3, .invokevirtual 337, [0, 235, 1, 9]) from rfl) zm235 (hl.lt (a := 121) (by decide)) (hl.T (a := 121) (p := (9, 45)) 43 rfl rfl) rfl (show aCr 1 121 [.int 39, .ref 121] 2 = some ([some (.ref 121), some (.int 39)], []) from rfl)) hq9 ?_
        exact dt238_35 hd ih hq9.1  h
      · rw [if_neg hc8] at h
        refine Q.map (A.bT (gI_of zm238 (e := (50, 3, .if_icmp .ne 9, [35])) rfl) (decide_eq_true hc8)) ?_
        exact dt238_35 hd ih hl  h
def dm238_12 (x1 : Int32) (x2 : Int32) (s : aS) : Option (aS) :=
  dm238_14 5000 x1 x2 0 s
set_option maxRecDepth 100000 in
theorem dt238_12 {sio : Bool} {tt : Nat} {cc : Nat → Nat → Int32} {d : Nat} (hd : 4 ≤ d) {x1 : Int32} {x2 : Int32} {s : aS} (hl : Ly tt cc s) {o : aS} (h : dm238_12  x1 x2 s = some o) : Q 2 sio tt cc d 238 12 [some (.ref 121), some (.int x1), some (.int x2), none, none] [] s (.inl none, o) := by
  unfold dm238_12 at h
  obtain ⟨d, rfl⟩ : ∃ e, d = e + 1 := ⟨d - 1, by omega⟩
  refine Q.run zm238 2 (i' := 14) (ls' := [some (.ref 121), some (.int x1), some (.int x2), some (.int 0), none]) (st' := []) rfl ?_
  exact dt238_14 hd _ hl  h
def dm238 (x1 : Int32) (s : aS) : Option (aS) :=
  if 0 ≤ x1 then
    bu (dm239 x1 s) fun r4 =>
    if r4 = 0 then
      dm238_12 x1 r4 s
    else
      bu (dm235 39 s) fun s8 =>
      dm238_12 x1 r4 s8
  else
    some s
set_option maxRecDepth 100000 in
theorem dt238 {sio : Bool} {tt : Nat} {cc : Nat → Nat → Int32} {d : Nat} (hd : 4 ≤ d) {x1 : Int32} {s : aS} (hl : Ly tt cc s) {o : aS} (h : dm238  x1 s = some o) : Q 2 sio tt cc d 238 0 [some (.ref 121), some (.int x1), none, none, none] [] s (.inl none, o) := by
  unfold dm238 at h
  obtain ⟨d, rfl⟩ : ∃ e, d = e + 1 := ⟨d - 1, by omega⟩
  refine Q.run zm238 1 (i' := 1) (ls' := [some (.ref 121), some (.int x1), none, none, none]) (st' := [.int x1]) rfl ?_
  by_cases hc1 : 0 ≤ x1
  · rw [if_pos hc1] at h
    refine Q.map (A.zT (gI_of zm238 (e := (1, 3, .ifCond .ge 4, [3])) rfl) (decide_eq_true hc1)) ?_
    refine Q.run zm238 2 (i' := 5) (ls' := [some (.ref 121), some (.int x1), none, none, none]) (st' := [.int x1, .ref 121]) rfl ?_
    obtain ⟨r4, hc3, h⟩ := bu_so h
    have hq2 : Q 2 sio tt cc d 239 0 [some (.ref 121), some (.int x1), none, none, none, none, none] [] s (.inl (some (.int r4)), s) := dt239 (by omega) hl  hc3
    refine Q.callI (gC_vi zm238 (show zM238.2.2.2.2.2[5]? = some (7, 3, .invokevirtual 347, [0, 239, 1, 9]) from rfl) zm239 (hl.lt (a := 121) (by decide)) (hl.T (a := 121) (p := (9, 45)) 43 rfl rfl) rfl (show aCr 1 121 [.int x1, .ref 121] 7 = some ([some (.ref 121), some (.int x1), none, none, none, none, none], []) from rfl)) hq2 ?_
    refine Q.run zm238 2 (i' := 8) (ls' := [some (.ref 121), some (.int x1), some (.int r4), none, none]) (st' := [.int r4]) rfl ?_
    by_cases hc5 : r4 = 0
    · rw [if_pos hc5] at h
      refine Q.map (A.zT (gI_of zm238 (e := (12, 3, .ifCond .eq 9, [12])) rfl) (decide_eq_true hc5)) ?_
      exact dt238_12 hd hl  h
    · rw [if_neg hc5] at h
      refine Q.map (A.zF (gI_of zm238 (e := (12, 3, .ifCond .eq 9, [12])) rfl) (fun q => hc5 (of_decide_eq_true q))) ?_
      refine Q.run zm238 2 (i' := 11) (ls' := [some (.ref 121), some (.int x1), some (.int r4), none, none]) (st' := [.int 39, .ref 121]) rfl ?_
      obtain ⟨s8, hc7, h⟩ := bu_so h
      have hq6 : Q 2 sio tt cc d 235 0 [some (.ref 121), some (.int 39)] [] s (.inl none, s8) := dt235 (by omega) hl  hc7
      refine Q.callV (gC_vi zm238 (show zM238.2.2.2.2.2[11]? = some (18, 3, .invokevirtual 337, [0, 235, 1, 9]) from rfl) zm235 (hl.lt (a := 121) (by decide)) (hl.T (a := 121) (p := (9, 45)) 43 rfl rfl) rfl (show aCr 1 121 [.int 39, .ref 121] 2 = some ([some (.ref 121), some (.int 39)], []) from rfl)) hq6 ?_
      exact dt238_12 hd hq6.1  h
  · rw [if_neg hc1] at h
    refine Q.map (A.zF (gI_of zm238 (e := (1, 3, .ifCond .ge 4, [3])) rfl) (fun q => hc1 (of_decide_eq_true q))) ?_
    cases h
    exact Q.ret (A.rv zm238 (show zM238.2.2.2.2.2[2]? = some (4, 1, .return_, []) from rfl) rfl) hl
/-! 242 FormulaTreesModel.putNumber(I)V -/
set_option maxRecDepth 100000 in
theorem zm242 : zP[242]? = some zM242 := rfl
def dm242_12 : Nat → Int32 → Int32 → aS → Option (aS)
  | 0, _, _, _ => none
  | n + 1, x1, x2, s =>
    if x2 ≤ 0 then
      some s
    else
      if ¬ x2 = 0 then
        bu (dm235 (48 + ((x1 / x2) - (x1 / x2) / 10 * 10)) s) fun s5 =>
        dm242_12 n x1 (x2 / 10) s5
      else none
set_option maxRecDepth 100000 in
theorem dt242_12 {sio : Bool} {tt : Nat} {cc : Nat → Nat → Int32} {d : Nat} (hd : 1 ≤ d) : ∀ (n : Nat) {x1 : Int32} {x2 : Int32} {s : aS} (_ : Ly tt cc s) {o : aS} (_ : dm242_12  n x1 x2 s = some o), Q 2 sio tt cc d 242 12 [some (.ref 121), some (.int x1), some (.int x2)] [] s (.inl none, o) := by
  obtain ⟨d, rfl⟩ : ∃ e, d = e + 1 := ⟨d - 1, by omega⟩
  intro n
  induction n with
  | zero => intro x1 x2 s hl o h; rw [dm242_12] at h; cases h
  | succ n ih =>
    intro x1 x2 s hl o h
    rw [dm242_12] at h
    refine Q.run zm242 1 (i' := 13) (ls' := [some (.ref 121), some (.int x1), some (.int x2)]) (st' := [.int x2]) rfl ?_
    by_cases hc1 : x2 ≤ 0
    · rw [if_pos hc1] at h
      refine Q.map (A.zT (gI_of zm242 (e := (19, 3, .ifCond .le 24, [28])) rfl) (decide_eq_true hc1)) ?_
      cases h
      exact Q.ret (A.rv zm242 (show zM242.2.2.2.2.2[28]? = some (43, 1, .return_, []) from rfl) rfl) hl
    · rw [if_neg hc1] at h
      refine Q.map (A.zF (gI_of zm242 (e := (19, 3, .ifCond .le 24, [28])) rfl) (fun q => hc1 (of_decide_eq_true q))) ?_
      refine Q.run zm242 4 (i' := 18) (ls' := [some (.ref 121), some (.int x1), some (.int x2)]) (st' := [.int x2, .int x1, .int 48, .ref 121]) rfl ?_
      obtain ⟨hc2, h⟩ := ite_so h
      refine Q.map (A.dv (gI_of zm242 (e := (27, 1, .idiv, [])) rfl) hc2) ?_
      refine Q.run zm242 3 (i' := 22) (ls' := [some (.ref 121), some (.int x1), some (.int x2)]) (st' := [.int (48 + ((x1 / x2) - (x1 / x2) / 10 * 10)), .ref 121]) rfl ?_
      obtain ⟨s5, hc4, h⟩ := bu_so h
      have hq3 : Q 2 sio tt cc d 235 0 [some (.ref 121), some (.int (48 + ((x1 / x2) - (x1 / x2) / 10 * 10)))] [] s (.inl none, s5) := dt235 (by omega) hl  hc4
      refine Q.callV (gC_vi zm242 (show zM242.2.2.2.2.2[22]? = some (32, 3, .invokevirtual 337, [0, 235, 1, 9]) from rfl) zm235 (hl.lt (a := 121) (by decide)) (hl.T (a := 121) (p := (9, 45)) 43 rfl rfl) rfl (show aCr 1 121 [.int (48 + ((x1 / x2) - (x1 / x2) / 10 * 10)), .ref 121] 2 = some ([some (.ref 121), some (.int (48 + ((x1 / x2) - (x1 / x2) / 10 * 10)))], []) from rfl)) hq3 ?_
      refine Q.run zm242 5 (i' := 12) (ls' := [some (.ref 121), some (.int x1), some (.int (x2 / 10))]) (st' := []) rfl ?_
      exact ih hq3.1  h
def dm242_2 : Nat → Int32 → Int32 → aS → Option (aS)
  | 0, _, _, _ => none
  | n + 1, x1, x2, s =>
    if (x1 / 10) < x2 then
      dm242_12 5000 x1 x2 s
    else
      dm242_2 n x1 (10 * x2) s
set_option maxRecDepth 100000 in
theorem dt242_2 {sio : Bool} {tt : Nat} {cc : Nat → Nat → Int32} {d : Nat} (hd : 1 ≤ d) : ∀ (n : Nat) {x1 : Int32} {x2 : Int32} {s : aS} (_ : Ly tt cc s) {o : aS} (_ : dm242_2  n x1 x2 s = some o), Q 2 sio tt cc d 242 2 [some (.ref 121), some (.int x1), some (.int x2)] [] s (.inl none, o) := by
  obtain ⟨d, rfl⟩ : ∃ e, d = e + 1 := ⟨d - 1, by omega⟩
  intro n
  induction n with
  | zero => intro x1 x2 s hl o h; rw [dm242_2] at h; cases h
  | succ n ih =>
    intro x1 x2 s hl o h
    rw [dm242_2] at h
    refine Q.run zm242 4 (i' := 6) (ls' := [some (.ref 121), some (.int x1), some (.int x2)]) (st' := [.int (x1 / 10), .int x2]) rfl ?_
    by_cases hc1 : (x1 / 10) < x2
    · rw [if_pos hc1] at h
      refine Q.map (A.bT (gI_of zm242 (e := (7, 3, .if_icmp .gt 11, [12])) rfl) (decide_eq_true hc1)) ?_
      exact dt242_12 hd _ hl  h
    · rw [if_neg hc1] at h
      refine Q.map (A.bF (gI_of zm242 (e := (7, 3, .if_icmp .gt 11, [12])) rfl) (fun q => hc1 (of_decide_eq_true q))) ?_
      refine Q.run zm242 5 (i' := 2) (ls' := [some (.ref 121), some (.int x1), some (.int (10 * x2))]) (st' := []) rfl ?_
      exact ih hl  h
def dm242 (x1 : Int32) (s : aS) : Option (aS) :=
  dm242_2 5000 x1 1 s
set_option maxRecDepth 100000 in
theorem dt242 {sio : Bool} {tt : Nat} {cc : Nat → Nat → Int32} {d : Nat} (hd : 1 ≤ d) {x1 : Int32} {s : aS} (hl : Ly tt cc s) {o : aS} (h : dm242  x1 s = some o) : Q 2 sio tt cc d 242 0 [some (.ref 121), some (.int x1), none] [] s (.inl none, o) := by
  unfold dm242 at h
  obtain ⟨d, rfl⟩ : ∃ e, d = e + 1 := ⟨d - 1, by omega⟩
  refine Q.run zm242 2 (i' := 2) (ls' := [some (.ref 121), some (.int x1), some (.int 1)]) (st' := []) rfl ?_
  exact dt242_2 hd _ hl  h
/-! 241 FormulaTreesModel.putPlace(III)V -/
set_option maxRecDepth 100000 in
theorem zm241 : zP[241]? = some zM241 := rfl
def dm241_51 (x1 : Int32) (s : aS) : Option (aS) :=
  bu (dm242 x1 s) fun s3 =>
  some s3
set_option maxRecDepth 100000 in
theorem dt241_51 {sio : Bool} {tt : Nat} {cc : Nat → Nat → Int32} {d : Nat} (hd : 2 ≤ d) {x1 : Int32} {x2 : Int32} {x3 : Int32} {s : aS} (hl : Ly tt cc s) {o : aS} (h : dm241_51  x1 s = some o) : Q 2 sio tt cc d 241 51 [some (.ref 121), some (.int x1), some (.int x2), some (.int x3)] [] s (.inl none, o) := by
  unfold dm241_51 at h
  obtain ⟨d, rfl⟩ : ∃ e, d = e + 1 := ⟨d - 1, by omega⟩
  refine Q.run zm241 2 (i' := 53) (ls' := [some (.ref 121), some (.int x1), some (.int x2), some (.int x3)]) (st' := [.int x1, .ref 121]) rfl ?_
  obtain ⟨s3, hc2, h⟩ := bu_so h
  have hq1 : Q 2 sio tt cc d 242 0 [some (.ref 121), some (.int x1), none] [] s (.inl none, s3) := dt242 (by omega) hl  hc2
  refine Q.callV (gC_vi zm241 (show zM241.2.2.2.2.2[53]? = some (87, 3, .invokevirtual 340, [0, 242, 1, 9]) from rfl) zm242 (hl.lt (a := 121) (by decide)) (hl.T (a := 121) (p := (9, 45)) 43 rfl rfl) rfl (show aCr 1 121 [.int x1, .ref 121] 3 = some ([some (.ref 121), some (.int x1), none], []) from rfl)) hq1 ?_
  cases h
  exact Q.ret (A.rv zm241 (show zM241.2.2.2.2.2[54]? = some (90, 1, .return_, []) from rfl) rfl) hq1.1
def dm241_35 (x1 : Int32) (x2 : Int32) (x3 : Int32) (s : aS) : Option (aS) :=
  bu (dm235 (65 + ((x2 - 1) - (x2 - 1) / 26 * 26)) s) fun s3 =>
  if (x3 &&& 1) ≤ 0 then
    dm241_51 x1 s3
  else
    bu (dm235 36 s3) fun s7 =>
    dm241_51 x1 s7
set_option maxRecDepth 100000 in
theorem dt241_35 {sio : Bool} {tt : Nat} {cc : Nat → Nat → Int32} {d : Nat} (hd : 2 ≤ d) {x1 : Int32} {x2 : Int32} {x3 : Int32} {s : aS} (hl : Ly tt cc s) {o : aS} (h : dm241_35  x1 x2 x3 s = some o) : Q 2 sio tt cc d 241 35 [some (.ref 121), some (.int x1), some (.int x2), some (.int x3)] [] s (.inl none, o) := by
  unfold dm241_35 at h
  obtain ⟨d, rfl⟩ : ∃ e, d = e + 1 := ⟨d - 1, by omega⟩
  refine Q.run zm241 8 (i' := 43) (ls' := [some (.ref 121), some (.int x1), some (.int x2), some (.int x3)]) (st' := [.int (65 + ((x2 - 1) - (x2 - 1) / 26 * 26)), .ref 121]) rfl ?_
  obtain ⟨s3, hc2, h⟩ := bu_so h
  have hq1 : Q 2 sio tt cc d 235 0 [some (.ref 121), some (.int (65 + ((x2 - 1) - (x2 - 1) / 26 * 26)))] [] s (.inl none, s3) := dt235 (by omega) hl  hc2
  refine Q.callV (gC_vi zm241 (show zM241.2.2.2.2.2[43]? = some (70, 3, .invokevirtual 337, [0, 235, 1, 9]) from rfl) zm235 (hl.lt (a := 121) (by decide)) (hl.T (a := 121) (p := (9, 45)) 43 rfl rfl) rfl (show aCr 1 121 [.int (65 + ((x2 - 1) - (x2 - 1) / 26 * 26)), .ref 121] 2 = some ([some (.ref 121), some (.int (65 + ((x2 - 1) - (x2 - 1) / 26 * 26)))], []) from rfl)) hq1 ?_
  refine Q.run zm241 3 (i' := 47) (ls' := [some (.ref 121), some (.int x1), some (.int x2), some (.int x3)]) (st' := [.int (x3 &&& 1)]) rfl ?_
  by_cases hc4 : (x3 &&& 1) ≤ 0
  · rw [if_pos hc4] at h
    refine Q.map (A.zT (gI_of zm241 (e := (76, 3, .ifCond .le 9, [51])) rfl) (decide_eq_true hc4)) ?_
    exact dt241_51 hd hq1.1  h
  · rw [if_neg hc4] at h
    refine Q.map (A.zF (gI_of zm241 (e := (76, 3, .ifCond .le 9, [51])) rfl) (fun q => hc4 (of_decide_eq_true q))) ?_
    refine Q.run zm241 2 (i' := 50) (ls' := [some (.ref 121), some (.int x1), some (.int x2), some (.int x3)]) (st' := [.int 36, .ref 121]) rfl ?_
    obtain ⟨s7, hc6, h⟩ := bu_so h
    have hq5 : Q 2 sio tt cc d 235 0 [some (.ref 121), some (.int 36)] [] s3 (.inl none, s7) := dt235 (by omega) hq1.1  hc6
    refine Q.callV (gC_vi zm241 (show zM241.2.2.2.2.2[50]? = some (82, 3, .invokevirtual 337, [0, 235, 1, 9]) from rfl) zm235 (hq1.1.lt (a := 121) (by decide)) (hq1.1.T (a := 121) (p := (9, 45)) 43 rfl rfl) rfl (show aCr 1 121 [.int 36, .ref 121] 2 = some ([some (.ref 121), some (.int 36)], []) from rfl)) hq5 ?_
    exact dt241_51 hd hq5.1  h
def dm241_21 (x1 : Int32) (x2 : Int32) (x3 : Int32) (s : aS) : Option (aS) :=
  if x2 ≤ 26 then
    dm241_35 x1 x2 x3 s
  else
    bu (dm235 (65 + (((x2 - 27) / 26) - ((x2 - 27) / 26) / 26 * 26)) s) fun s4 =>
    dm241_35 x1 x2 x3 s4
set_option maxRecDepth 100000 in
theorem dt241_21 {sio : Bool} {tt : Nat} {cc : Nat → Nat → Int32} {d : Nat} (hd : 2 ≤ d) {x1 : Int32} {x2 : Int32} {x3 : Int32} {s : aS} (hl : Ly tt cc s) {o : aS} (h : dm241_21  x1 x2 x3 s = some o) : Q 2 sio tt cc d 241 21 [some (.ref 121), some (.int x1), some (.int x2), some (.int x3)] [] s (.inl none, o) := by
  unfold dm241_21 at h
  obtain ⟨d, rfl⟩ : ∃ e, d = e + 1 := ⟨d - 1, by omega⟩
  refine Q.run zm241 2 (i' := 23) (ls' := [some (.ref 121), some (.int x1), some (.int x2), some (.int x3)]) (st' := [.int 26, .int x2]) rfl ?_
  by_cases hc1 : x2 ≤ 26
  · rw [if_pos hc1] at h
    refine Q.map (A.bT (gI_of zm241 (e := (40, 3, .if_icmp .le 20, [35])) rfl) (decide_eq_true hc1)) ?_
    exact dt241_35 hd hl  h
  · rw [if_neg hc1] at h
    refine Q.map (A.bF (gI_of zm241 (e := (40, 3, .if_icmp .le 20, [35])) rfl) (fun q => hc1 (of_decide_eq_true q))) ?_
    refine Q.run zm241 10 (i' := 34) (ls' := [some (.ref 121), some (.int x1), some (.int x2), some (.int x3)]) (st' := [.int (65 + (((x2 - 27) / 26) - ((x2 - 27) / 26) / 26 * 26)), .ref 121]) rfl ?_
    obtain ⟨s4, hc3, h⟩ := bu_so h
    have hq2 : Q 2 sio tt cc d 235 0 [some (.ref 121), some (.int (65 + (((x2 - 27) / 26) - ((x2 - 27) / 26) / 26 * 26)))] [] s (.inl none, s4) := dt235 (by omega) hl  hc3
    refine Q.callV (gC_vi zm241 (show zM241.2.2.2.2.2[34]? = some (57, 3, .invokevirtual 337, [0, 235, 1, 9]) from rfl) zm235 (hl.lt (a := 121) (by decide)) (hl.T (a := 121) (p := (9, 45)) 43 rfl rfl) rfl (show aCr 1 121 [.int (65 + (((x2 - 27) / 26) - ((x2 - 27) / 26) / 26 * 26)), .ref 121] 2 = some ([some (.ref 121), some (.int (65 + (((x2 - 27) / 26) - ((x2 - 27) / 26) / 26 * 26)))], []) from rfl)) hq2 ?_
    exact dt241_35 hd hq2.1  h
def dm241_7 (x1 : Int32) (x2 : Int32) (x3 : Int32) (s : aS) : Option (aS) :=
  if x2 ≤ 702 then
    dm241_21 x1 x2 x3 s
  else
    bu (dm235 ((64 + ((x2 - 703) / 676)) + 1) s) fun s4 =>
    dm241_21 x1 x2 x3 s4
set_option maxRecDepth 100000 in
theorem dt241_7 {sio : Bool} {tt : Nat} {cc : Nat → Nat → Int32} {d : Nat} (hd : 2 ≤ d) {x1 : Int32} {x2 : Int32} {x3 : Int32} {s : aS} (hl : Ly tt cc s) {o : aS} (h : dm241_7  x1 x2 x3 s = some o) : Q 2 sio tt cc d 241 7 [some (.ref 121), some (.int x1), some (.int x2), some (.int x3)] [] s (.inl none, o) := by
  unfold dm241_7 at h
  obtain ⟨d, rfl⟩ : ∃ e, d = e + 1 := ⟨d - 1, by omega⟩
  refine Q.run zm241 2 (i' := 9) (ls' := [some (.ref 121), some (.int x1), some (.int x2), some (.int x3)]) (st' := [.int 702, .int x2]) rfl ?_
  by_cases hc1 : x2 ≤ 702
  · rw [if_pos hc1] at h
    refine Q.map (A.bT (gI_of zm241 (e := (16, 3, .if_icmp .le 21, [21])) rfl) (decide_eq_true hc1)) ?_
    exact dt241_21 hd hl  h
  · rw [if_neg hc1] at h
    refine Q.map (A.bF (gI_of zm241 (e := (16, 3, .if_icmp .le 21, [21])) rfl) (fun q => hc1 (of_decide_eq_true q))) ?_
    refine Q.run zm241 10 (i' := 20) (ls' := [some (.ref 121), some (.int x1), some (.int x2), some (.int x3)]) (st' := [.int ((64 + ((x2 - 703) / 676)) + 1), .ref 121]) rfl ?_
    obtain ⟨s4, hc3, h⟩ := bu_so h
    have hq2 : Q 2 sio tt cc d 235 0 [some (.ref 121), some (.int ((64 + ((x2 - 703) / 676)) + 1))] [] s (.inl none, s4) := dt235 (by omega) hl  hc3
    refine Q.callV (gC_vi zm241 (show zM241.2.2.2.2.2[20]? = some (34, 3, .invokevirtual 337, [0, 235, 1, 9]) from rfl) zm235 (hl.lt (a := 121) (by decide)) (hl.T (a := 121) (p := (9, 45)) 43 rfl rfl) rfl (show aCr 1 121 [.int ((64 + ((x2 - 703) / 676)) + 1), .ref 121] 2 = some ([some (.ref 121), some (.int ((64 + ((x2 - 703) / 676)) + 1))], []) from rfl)) hq2 ?_
    exact dt241_21 hd hq2.1  h
def dm241 (x1 : Int32) (x2 : Int32) (x3 : Int32) (s : aS) : Option (aS) :=
  if (x3 &&& 2) ≤ 0 then
    dm241_7 x1 x2 x3 s
  else
    bu (dm235 36 s) fun s4 =>
    dm241_7 x1 x2 x3 s4
set_option maxRecDepth 100000 in
theorem dt241 {sio : Bool} {tt : Nat} {cc : Nat → Nat → Int32} {d : Nat} (hd : 2 ≤ d) {x1 : Int32} {x2 : Int32} {x3 : Int32} {s : aS} (hl : Ly tt cc s) {o : aS} (h : dm241  x1 x2 x3 s = some o) : Q 2 sio tt cc d 241 0 [some (.ref 121), some (.int x1), some (.int x2), some (.int x3)] [] s (.inl none, o) := by
  unfold dm241 at h
  obtain ⟨d, rfl⟩ : ∃ e, d = e + 1 := ⟨d - 1, by omega⟩
  refine Q.run zm241 3 (i' := 3) (ls' := [some (.ref 121), some (.int x1), some (.int x2), some (.int x3)]) (st' := [.int (x3 &&& 2)]) rfl ?_
  by_cases hc1 : (x3 &&& 2) ≤ 0
  · rw [if_pos hc1] at h
    refine Q.map (A.zT (gI_of zm241 (e := (3, 3, .ifCond .le 9, [7])) rfl) (decide_eq_true hc1)) ?_
    exact dt241_7 hd hl  h
  · rw [if_neg hc1] at h
    refine Q.map (A.zF (gI_of zm241 (e := (3, 3, .ifCond .le 9, [7])) rfl) (fun q => hc1 (of_decide_eq_true q))) ?_
    refine Q.run zm241 2 (i' := 6) (ls' := [some (.ref 121), some (.int x1), some (.int x2), some (.int x3)]) (st' := [.int 36, .ref 121]) rfl ?_
    obtain ⟨s4, hc3, h⟩ := bu_so h
    have hq2 : Q 2 sio tt cc d 235 0 [some (.ref 121), some (.int 36)] [] s (.inl none, s4) := dt235 (by omega) hl  hc3
    refine Q.callV (gC_vi zm241 (show zM241.2.2.2.2.2[6]? = some (9, 3, .invokevirtual 337, [0, 235, 1, 9]) from rfl) zm235 (hl.lt (a := 121) (by decide)) (hl.T (a := 121) (p := (9, 45)) 43 rfl rfl) rfl (show aCr 1 121 [.int 36, .ref 121] 2 = some ([some (.ref 121), some (.int 36)], []) from rfl)) hq2 ?_
    exact dt241_7 hd hq2.1  h
/-! 236 FormulaTreesModel.putChild(III)I -/
set_option maxRecDepth 100000 in
theorem zm236 : zP[236]? = some zM236 := rfl
set_option maxRecDepth 100000 in
theorem zm233 : zP[233]? = some zM233 := rfl
def dm236_16 (rc : Int32 → Int32 → aS → Option (Int32 × aS)) (x1 : Int32) (x2 : Int32) (x4 : Int32) (s : aS) : Option (Int32 × aS) :=
  bv (rc x1 x2 s) fun r4 s3 =>
  if x4 = 0 then
    some (r4, s3)
  else
    bu (dm235 41 s3) fun s8 =>
    some (r4, s8)
set_option maxRecDepth 100000 in
theorem dt236_16 {sio : Bool} {tt : Nat} {cc : Nat → Nat → Int32} {d : Nat} {m : Nat} (hd : 12 + 3 * m + 1 ≤ d) {rc : Int32 → Int32 → aS → Option (Int32 × aS)} (hrc : ∀ {d : Nat}, 12 + 3 * m ≤ d → ∀ {x1 x2 : Int32} {s : aS}, Ly tt cc s → ∀ {o : Int32 × aS}, rc x1 x2 s = some o → Q 2 sio tt cc d 233 0 [some (.ref 121), some (.int x1), some (.int x2), none, none, none, none] [] s (.inl (some (.int o.1)), o.2)) {x1 : Int32} {x2 : Int32} {x4 : Int32} {x3 : Int32} {s : aS} (hl : Ly tt cc s) {o : Int32 × aS} (h : dm236_16 rc x1 x2 x4 s = some o) : Q 2 sio tt cc d 236 16 [some (.ref 121), some (.int x1), some (.int x2), some (.int x3), some (.int x4), none] [] s (.inl (some (.int o.1)), o.2) := by
  unfold dm236_16 at h
  obtain ⟨d, rfl⟩ : ∃ e, d = e + 1 := ⟨d - 1, by omega⟩
  refine Q.run zm236 3 (i' := 19) (ls' := [some (.ref 121), some (.int x1), some (.int x2), some (.int x3), some (.int x4), none]) (st' := [.int x2, .int x1, .ref 121]) rfl ?_
  obtain ⟨r4, s3, hc2, h⟩ := bv_so h
  have hq1 : Q 2 sio tt cc d 233 0 [some (.ref 121), some (.int x1), some (.int x2), none, none, none, none] [] s (.inl (some (.int r4)), s3) := hrc (by omega) hl  hc2
  refine Q.callI (gC_vi zm236 (show zM236.2.2.2.2.2[19]? = some (34, 3, .invokevirtual 350, [0, 233, 2, 9]) from rfl) zm233 (hl.lt (a := 121) (by decide)) (hl.T (a := 121) (p := (9, 45)) 43 rfl rfl) rfl (show aCr 2 121 [.int x2, .int x1, .ref 121] 7 = some ([some (.ref 121), some (.int x1), some (.int x2), none, none, none, none], []) from rfl)) hq1 ?_
  refine Q.run zm236 2 (i' := 22) (ls' := [some (.ref 121), some (.int x1), some (.int x2), some (.int x3), some (.int x4), some (.int r4)]) (st' := [.int x4]) rfl ?_
  by_cases hc5 : x4 = 0
  · rw [if_pos hc5] at h
    refine Q.map (A.zT (gI_of zm236 (e := (41, 3, .ifCond .eq 9, [26])) rfl) (decide_eq_true hc5)) ?_
    refine Q.run zm236 1 (i' := 27) (ls' := [some (.ref 121), some (.int x1), some (.int x2), some (.int x3), some (.int x4), some (.int r4)]) (st' := [.int r4]) rfl ?_
    cases h
    exact Q.ret (A.ri zm236 (show zM236.2.2.2.2.2[27]? = some (52, 1, .ireturn, []) from rfl) rfl rfl) hq1.1
  · rw [if_neg hc5] at h
    refine Q.map (A.zF (gI_of zm236 (e := (41, 3, .ifCond .eq 9, [26])) rfl) (fun q => hc5 (of_decide_eq_true q))) ?_
    refine Q.run zm236 2 (i' := 25) (ls' := [some (.ref 121), some (.int x1), some (.int x2), some (.int x3), some (.int x4), some (.int r4)]) (st' := [.int 41, .ref 121]) rfl ?_
    obtain ⟨s8, hc7, h⟩ := bu_so h
    have hq6 : Q 2 sio tt cc d 235 0 [some (.ref 121), some (.int 41)] [] s3 (.inl none, s8) := dt235 (by omega) hq1.1  hc7
    refine Q.callV (gC_vi zm236 (show zM236.2.2.2.2.2[25]? = some (47, 3, .invokevirtual 337, [0, 235, 1, 9]) from rfl) zm235 (hq1.1.lt (a := 121) (by decide)) (hq1.1.T (a := 121) (p := (9, 45)) 43 rfl rfl) rfl (show aCr 1 121 [.int 41, .ref 121] 2 = some ([some (.ref 121), some (.int 41)], []) from rfl)) hq6 ?_
    refine Q.run zm236 1 (i' := 27) (ls' := [some (.ref 121), some (.int x1), some (.int x2), some (.int x3), some (.int x4), some (.int r4)]) (st' := [.int r4]) rfl ?_
    cases h
    exact Q.ret (A.ri zm236 (show zM236.2.2.2.2.2[27]? = some (52, 1, .ireturn, []) from rfl) rfl rfl) hq6.1
def dm236_10 (rc : Int32 → Int32 → aS → Option (Int32 × aS)) (x1 : Int32) (x2 : Int32) (y0 : Int32) (s : aS) : Option (Int32 × aS) :=
  if y0 = 0 then
    dm236_16 rc x1 x2 y0 s
  else
    bu (dm235 40 s) fun s4 =>
    dm236_16 rc x1 x2 y0 s4
set_option maxRecDepth 100000 in
theorem dt236_10 {sio : Bool} {tt : Nat} {cc : Nat → Nat → Int32} {d : Nat} {m : Nat} (hd : 12 + 3 * m + 1 ≤ d) {rc : Int32 → Int32 → aS → Option (Int32 × aS)} (hrc : ∀ {d : Nat}, 12 + 3 * m ≤ d → ∀ {x1 x2 : Int32} {s : aS}, Ly tt cc s → ∀ {o : Int32 × aS}, rc x1 x2 s = some o → Q 2 sio tt cc d 233 0 [some (.ref 121), some (.int x1), some (.int x2), none, none, none, none] [] s (.inl (some (.int o.1)), o.2)) {x1 : Int32} {x2 : Int32} {y0 : Int32} {x3 : Int32} {s : aS} (hl : Ly tt cc s) {o : Int32 × aS} (h : dm236_10 rc x1 x2 y0 s = some o) : Q 2 sio tt cc d 236 10 [some (.ref 121), some (.int x1), some (.int x2), some (.int x3), none, none] [.int y0] s (.inl (some (.int o.1)), o.2) := by
  unfold dm236_10 at h
  obtain ⟨d, rfl⟩ : ∃ e, d = e + 1 := ⟨d - 1, by omega⟩
  refine Q.run zm236 2 (i' := 12) (ls' := [some (.ref 121), some (.int x1), some (.int x2), some (.int x3), some (.int y0), none]) (st' := [.int y0]) rfl ?_
  by_cases hc1 : y0 = 0
  · rw [if_pos hc1] at h
    refine Q.map (A.zT (gI_of zm236 (e := (22, 3, .ifCond .eq 9, [16])) rfl) (decide_eq_true hc1)) ?_
    exact dt236_16 (by omega) hrc hl  h
  · rw [if_neg hc1] at h
    refine Q.map (A.zF (gI_of zm236 (e := (22, 3, .ifCond .eq 9, [16])) rfl) (fun q => hc1 (of_decide_eq_true q))) ?_
    refine Q.run zm236 2 (i' := 15) (ls' := [some (.ref 121), some (.int x1), some (.int x2), some (.int x3), some (.int y0), none]) (st' := [.int 40, .ref 121]) rfl ?_
    obtain ⟨s4, hc3, h⟩ := bu_so h
    have hq2 : Q 2 sio tt cc d 235 0 [some (.ref 121), some (.int 40)] [] s (.inl none, s4) := dt235 (by omega) hl  hc3
    refine Q.callV (gC_vi zm236 (show zM236.2.2.2.2.2[15]? = some (28, 3, .invokevirtual 337, [0, 235, 1, 9]) from rfl) zm235 (hl.lt (a := 121) (by decide)) (hl.T (a := 121) (p := (9, 45)) 43 rfl rfl) rfl (show aCr 1 121 [.int 40, .ref 121] 2 = some ([some (.ref 121), some (.int 40)], []) from rfl)) hq2 ?_
    exact dt236_16 (by omega) hrc hq2.1  h
def dm236 (rc : Int32 → Int32 → aS → Option (Int32 × aS)) (x1 : Int32) (x2 : Int32) (x3 : Int32) (s : aS) : Option (Int32 × aS) :=
  if aB x2 1152 then
    bu (dm191 (sI s 128 (jN x2))) fun r4 =>
    if x3 ≤ r4 then
      dm236_10 rc x1 x2 0 s
    else
      dm236_10 rc x1 x2 1 s
  else none
set_option maxRecDepth 100000 in
theorem dt236 {sio : Bool} {tt : Nat} {cc : Nat → Nat → Int32} {d : Nat} {m : Nat} (hd : 12 + 3 * m + 1 ≤ d) {rc : Int32 → Int32 → aS → Option (Int32 × aS)} (hrc : ∀ {d : Nat}, 12 + 3 * m ≤ d → ∀ {x1 x2 : Int32} {s : aS}, Ly tt cc s → ∀ {o : Int32 × aS}, rc x1 x2 s = some o → Q 2 sio tt cc d 233 0 [some (.ref 121), some (.int x1), some (.int x2), none, none, none, none] [] s (.inl (some (.int o.1)), o.2)) {x1 : Int32} {x2 : Int32} {x3 : Int32} {s : aS} (hl : Ly tt cc s) {o : Int32 × aS} (h : dm236 rc x1 x2 x3 s = some o) : Q 2 sio tt cc d 236 0 [some (.ref 121), some (.int x1), some (.int x2), some (.int x3), none, none] [] s (.inl (some (.int o.1)), o.2) := by
  unfold dm236 at h
  obtain ⟨d, rfl⟩ : ∃ e, d = e + 1 := ⟨d - 1, by omega⟩
  refine Q.run zm236 1 (i' := 1) (ls' := [some (.ref 121), some (.int x1), some (.int x2), some (.int x3), none, none]) (st' := [.ref 121]) rfl ?_
  refine Q.map (A.gf (gI_of zm236 (e := (1, 3, .getfield 29, [9, 9])) rfl) (hl.lt (a := 121) (by decide)) (hl.T (a := 121) (p := (9, 45)) 43 rfl rfl) (by decide) (hl.R 29 rfl)) ?_
  refine Q.run zm236 1 (i' := 3) (ls' := [some (.ref 121), some (.int x1), some (.int x2), some (.int x3), none, none]) (st' := [.int x2, .ref 128]) rfl ?_
  obtain ⟨hc1, h⟩ := ite_so h
  refine Q.map (A.ia (gI_of zm236 (e := (5, 1, .iaload, [])) rfl) (hl.lt (a := 128) (by decide)) (hl.T (a := 128) (p := (100, 1152)) 50 rfl rfl) hc1) ?_
  obtain ⟨r4, hc3, h⟩ := bu_so h
  have hq2 : Q 2 sio tt cc d 191 0 [some (.int (sI s 128 (jN x2)))] [] s (.inl (some (.int r4)), s) := dt191 (by omega) hl  hc3
  refine Q.callI (gC_st zm236 (show zM236.2.2.2.2.2[4]? = some (6, 3, .invokestatic 150, [0, 191, 1]) from rfl) zm191 (show aC 1 [.int (sI s 128 (jN x2))] 1 = some ([some (.int (sI s 128 (jN x2)))], []) from rfl)) hq2 ?_
  refine Q.run zm236 1 (i' := 6) (ls' := [some (.ref 121), some (.int x1), some (.int x2), some (.int x3), none, none]) (st' := [.int x3, .int r4]) rfl ?_
  by_cases hc5 : x3 ≤ r4
  · rw [if_pos hc5] at h
    refine Q.map (A.bT (gI_of zm236 (e := (10, 3, .if_icmp .ge 7, [9])) rfl) (decide_eq_true hc5)) ?_
    refine Q.run zm236 1 (i' := 10) (ls' := [some (.ref 121), some (.int x1), some (.int x2), some (.int x3), none, none]) (st' := [.int 0]) rfl ?_
    exact dt236_10 (by omega) hrc hl  h
  · rw [if_neg hc5] at h
    refine Q.map (A.bF (gI_of zm236 (e := (10, 3, .if_icmp .ge 7, [9])) rfl) (fun q => hc5 (of_decide_eq_true q))) ?_
    refine Q.run zm236 2 (i' := 10) (ls' := [some (.ref 121), some (.int x1), some (.int x2), some (.int x3), none, none]) (st' := [.int 1]) rfl ?_
    exact dt236_10 (by omega) hrc hl  h
/-! 233 FormulaTreesModel.putNode(II)I -/
def dm233_231 (rc : Int32 → Int32 → aS → Option (Int32 × aS)) (x2 : Int32) (s : aS) : Option (Int32 × aS) :=
  some (x2 + 1, s)
set_option maxRecDepth 100000 in
theorem dt233_231 {sio : Bool} {tt : Nat} {cc : Nat → Nat → Int32} {d : Nat} {m : Nat} (hd : 12 + 3 * m + 2 ≤ d) {rc : Int32 → Int32 → aS → Option (Int32 × aS)} (hrc : ∀ {d : Nat}, 12 + 3 * m ≤ d → ∀ {x1 x2 : Int32} {s : aS}, Ly tt cc s → ∀ {o : Int32 × aS}, rc x1 x2 s = some o → Q 2 sio tt cc d 233 0 [some (.ref 121), some (.int x1), some (.int x2), none, none, none, none] [] s (.inl (some (.int o.1)), o.2)) {x2 : Int32} {x1 : Int32} {x3 : Int32} {g4 : Option Value} {g5 : Option Value} {g6 : Option Value} {s : aS} (hl : Ly tt cc s) {o : Int32 × aS} (h : dm233_231 rc x2 s = some o) : Q 2 sio tt cc d 233 231 [some (.ref 121), some (.int x1), some (.int x2), some (.int x3), g4, g5, g6] [] s (.inl (some (.int o.1)), o.2) := by
  unfold dm233_231 at h
  obtain ⟨d, rfl⟩ : ∃ e, d = e + 1 := ⟨d - 1, by omega⟩
  refine Q.run zm233 3 (i' := 234) (ls' := [some (.ref 121), some (.int x1), some (.int x2), some (.int x3), g4, g5, g6]) (st' := [.int (x2 + 1)]) rfl ?_
  cases h
  exact Q.ret (A.ri zm233 (show zM233.2.2.2.2.2[234]? = some (414, 1, .ireturn, []) from rfl) rfl rfl) hl
def dm233_104 (rc : Int32 → Int32 → aS → Option (Int32 × aS)) (x1 : Int32) (x4 : Int32) (x5 : Int32) (s : aS) : Option (Int32 × aS) :=
  bv (dm236 rc x1 x5 (x4 + 1) s) fun r4 s3 =>
  some (r4, s3)
set_option maxRecDepth 100000 in
theorem dt233_104 {sio : Bool} {tt : Nat} {cc : Nat → Nat → Int32} {d : Nat} {m : Nat} (hd : 12 + 3 * m + 2 ≤ d) {rc : Int32 → Int32 → aS → Option (Int32 × aS)} (hrc : ∀ {d : Nat}, 12 + 3 * m ≤ d → ∀ {x1 x2 : Int32} {s : aS}, Ly tt cc s → ∀ {o : Int32 × aS}, rc x1 x2 s = some o → Q 2 sio tt cc d 233 0 [some (.ref 121), some (.int x1), some (.int x2), none, none, none, none] [] s (.inl (some (.int o.1)), o.2)) {x1 : Int32} {x4 : Int32} {x5 : Int32} {x2 : Int32} {x3 : Int32} {s : aS} (hl : Ly tt cc s) {o : Int32 × aS} (h : dm233_104 rc x1 x4 x5 s = some o) : Q 2 sio tt cc d 233 104 [some (.ref 121), some (.int x1), some (.int x2), some (.int x3), some (.int x4), some (.int x5), none] [] s (.inl (some (.int o.1)), o.2) := by
  unfold dm233_104 at h
  obtain ⟨d, rfl⟩ : ∃ e, d = e + 1 := ⟨d - 1, by omega⟩
  refine Q.run zm233 6 (i' := 110) (ls' := [some (.ref 121), some (.int x1), some (.int x2), some (.int x3), some (.int x4), some (.int x5), none]) (st' := [.int (x4 + 1), .int x5, .int x1, .ref 121]) rfl ?_
  obtain ⟨r4, s3, hc2, h⟩ := bv_so h
  have hq1 : Q 2 sio tt cc d 236 0 [some (.ref 121), some (.int x1), some (.int x5), some (.int (x4 + 1)), none, none] [] s (.inl (some (.int r4)), s3) := dt236 (m := m) (by omega) hrc hl  hc2
  refine Q.callI (gC_vi zm233 (show zM233.2.2.2.2.2[110]? = some (193, 3, .invokevirtual 356, [0, 236, 3, 9]) from rfl) zm236 (hl.lt (a := 121) (by decide)) (hl.T (a := 121) (p := (9, 45)) 43 rfl rfl) rfl (show aCr 3 121 [.int (x4 + 1), .int x5, .int x1, .ref 121] 6 = some ([some (.ref 121), some (.int x1), some (.int x5), some (.int (x4 + 1)), none, none], []) from rfl)) hq1 ?_
  cases h
  exact Q.ret (A.ri zm233 (show zM233.2.2.2.2.2[111]? = some (196, 1, .ireturn, []) from rfl) rfl rfl) hq1.1
def dm233_32 (rc : Int32 → Int32 → aS → Option (Int32 × aS)) (k21 : Int32 → Int32 → Int32 → Int32 → aS → Option (Int32 × aS)) (x1 : Int32) (x2 : Int32) (x4 : Int32) (x5 : Int32) (s : aS) : Option (Int32 × aS) :=
  bv (rc x1 x4 s) fun r4 s3 =>
  k21 x1 x2 r4 (x5 + 1) s3
set_option maxRecDepth 100000 in
theorem dt233_32 {sio : Bool} {tt : Nat} {cc : Nat → Nat → Int32} {d : Nat} {m : Nat} (hd : 12 + 3 * m + 2 ≤ d) {rc : Int32 → Int32 → aS → Option (Int32 × aS)} (hrc : ∀ {d : Nat}, 12 + 3 * m ≤ d → ∀ {x1 x2 : Int32} {s : aS}, Ly tt cc s → ∀ {o : Int32 × aS}, rc x1 x2 s = some o → Q 2 sio tt cc d 233 0 [some (.ref 121), some (.int x1), some (.int x2), none, none, none, none] [] s (.inl (some (.int o.1)), o.2)) {k21 : Int32 → Int32 → Int32 → Int32 → aS → Option (Int32 × aS)} (hk21 : ∀ {x1 : Int32} {x2 : Int32} {x4 : Int32} {x5 : Int32} {x3 : Int32} {s : aS}, Ly tt cc s → ∀ {o : Int32 × aS}, k21 x1 x2 x4 x5 s = some o → Q 2 sio tt cc d 233 21 [some (.ref 121), some (.int x1), some (.int x2), some (.int x3), some (.int x4), some (.int x5), none] [] s (.inl (some (.int o.1)), o.2)) {x1 : Int32} {x2 : Int32} {x4 : Int32} {x5 : Int32} {x3 : Int32} {s : aS} (hl : Ly tt cc s) {o : Int32 × aS} (h : dm233_32 rc k21 x1 x2 x4 x5 s = some o) : Q 2 sio tt cc d 233 32 [some (.ref 121), some (.int x1), some (.int x2), some (.int x3), some (.int x4), some (.int x5), none] [] s (.inl (some (.int o.1)), o.2) := by
  unfold dm233_32 at h
  obtain ⟨d, rfl⟩ : ∃ e, d = e + 1 := ⟨d - 1, by omega⟩
  refine Q.run zm233 3 (i' := 35) (ls' := [some (.ref 121), some (.int x1), some (.int x2), some (.int x3), some (.int x4), some (.int x5), none]) (st' := [.int x4, .int x1, .ref 121]) rfl ?_
  obtain ⟨r4, s3, hc2, h⟩ := bv_so h
  have hq1 : Q 2 sio tt cc d 233 0 [some (.ref 121), some (.int x1), some (.int x4), none, none, none, none] [] s (.inl (some (.int r4)), s3) := hrc (by omega) hl  hc2
  refine Q.callI (gC_vi zm233 (show zM233.2.2.2.2.2[35]? = some (59, 3, .invokevirtual 350, [0, 233, 2, 9]) from rfl) zm233 (hl.lt (a := 121) (by decide)) (hl.T (a := 121) (p := (9, 45)) 43 rfl rfl) rfl (show aCr 2 121 [.int x4, .int x1, .ref 121] 7 = some ([some (.ref 121), some (.int x1), some (.int x4), none, none, none, none], []) from rfl)) hq1 ?_
  refine Q.run zm233 3 (i' := 21) (ls' := [some (.ref 121), some (.int x1), some (.int x2), some (.int x3), some (.int r4), some (.int (x5 + 1)), none]) (st' := []) rfl ?_
  exact hk21 hq1.1  h
def dm233_179 (rc : Int32 → Int32 → aS → Option (Int32 × aS)) (x2 : Int32) (x3 : Int32) (s : aS) : Option (Int32 × aS) :=
  if aB x2 1152 then
    bu (dm238 (sI s 130 (jN x2)) s) fun s4 =>
    if aB x2 1152 then
      if aB x2 1152 then
        if aB x2 1152 then
          bu (dm241 (sI s4 131 (jN x2)) (sI s4 132 (jN x2)) ((sI s4 135 (jN x2)) &&& 3) s4) fun s10 =>
          if x3 = 5 then
            bu (dm235 58 s10) fun s14 =>
            if aB x2 1152 then
              if aB x2 1152 then
                if aB x2 1152 then
                  bu (dm241 (sI s14 133 (jN x2)) (sI s14 134 (jN x2)) ((sI s14 135 (jN x2)) >>> ((2 : Int32) &&& 31)) s14) fun s20 =>
                  dm233_231 rc x2 s20
                else none
              else none
            else none
          else
            dm233_231 rc x2 s10
        else none
      else none
    else none
  else none
set_option maxRecDepth 100000 in
theorem dt233_179 {sio : Bool} {tt : Nat} {cc : Nat → Nat → Int32} {d : Nat} {m : Nat} (hd : 12 + 3 * m + 2 ≤ d) {rc : Int32 → Int32 → aS → Option (Int32 × aS)} (hrc : ∀ {d : Nat}, 12 + 3 * m ≤ d → ∀ {x1 x2 : Int32} {s : aS}, Ly tt cc s → ∀ {o : Int32 × aS}, rc x1 x2 s = some o → Q 2 sio tt cc d 233 0 [some (.ref 121), some (.int x1), some (.int x2), none, none, none, none] [] s (.inl (some (.int o.1)), o.2)) {x2 : Int32} {x3 : Int32} {x1 : Int32} {s : aS} (hl : Ly tt cc s) {o : Int32 × aS} (h : dm233_179 rc x2 x3 s = some o) : Q 2 sio tt cc d 233 179 [some (.ref 121), some (.int x1), some (.int x2), some (.int x3), none, none, none] [] s (.inl (some (.int o.1)), o.2) := by
  unfold dm233_179 at h
  obtain ⟨d, rfl⟩ : ∃ e, d = e + 1 := ⟨d - 1, by omega⟩
  refine Q.run zm233 2 (i' := 181) (ls' := [some (.ref 121), some (.int x1), some (.int x2), some (.int x3), none, none, none]) (st' := [.ref 121, .ref 121]) rfl ?_
  refine Q.map (A.gf (gI_of zm233 (e := (329, 3, .getfield 35, [9, 11])) rfl) (hl.lt (a := 121) (by decide)) (hl.T (a := 121) (p := (9, 45)) 43 rfl rfl) (by decide) (hl.R 31 rfl)) ?_
  refine Q.run zm233 1 (i' := 183) (ls' := [some (.ref 121), some (.int x1), some (.int x2), some (.int x3), none, none, none]) (st' := [.int x2, .ref 130, .ref 121]) rfl ?_
  obtain ⟨hc1, h⟩ := ite_so h
  refine Q.map (A.ia (gI_of zm233 (e := (333, 1, .iaload, [])) rfl) (hl.lt (a := 130) (by decide)) (hl.T (a := 130) (p := (100, 1152)) 52 rfl rfl) hc1) ?_
  obtain ⟨s4, hc3, h⟩ := bu_so h
  have hq2 : Q 2 sio tt cc d 238 0 [some (.ref 121), some (.int (sI s 130 (jN x2))), none, none, none] [] s (.inl none, s4) := dt238 (by omega) hl  hc3
  refine Q.callV (gC_vi zm233 (show zM233.2.2.2.2.2[184]? = some (334, 3, .invokevirtual 362, [0, 238, 1, 9]) from rfl) zm238 (hl.lt (a := 121) (by decide)) (hl.T (a := 121) (p := (9, 45)) 43 rfl rfl) rfl (show aCr 1 121 [.int (sI s 130 (jN x2)), .ref 121] 5 = some ([some (.ref 121), some (.int (sI s 130 (jN x2))), none, none, none], []) from rfl)) hq2 ?_
  refine Q.run zm233 2 (i' := 187) (ls' := [some (.ref 121), some (.int x1), some (.int x2), some (.int x3), none, none, none]) (st' := [.ref 121, .ref 121]) rfl ?_
  refine Q.map (A.gf (gI_of zm233 (e := (339, 3, .getfield 38, [9, 12])) rfl) (hq2.1.lt (a := 121) (by decide)) (hq2.1.T (a := 121) (p := (9, 45)) 43 rfl rfl) (by decide) (hq2.1.R 32 rfl)) ?_
  refine Q.run zm233 1 (i' := 189) (ls' := [some (.ref 121), some (.int x1), some (.int x2), some (.int x3), none, none, none]) (st' := [.int x2, .ref 131, .ref 121]) rfl ?_
  obtain ⟨hc5, h⟩ := ite_so h
  refine Q.map (A.ia (gI_of zm233 (e := (343, 1, .iaload, [])) rfl) (hq2.1.lt (a := 131) (by decide)) (hq2.1.T (a := 131) (p := (100, 1152)) 53 rfl rfl) hc5) ?_
  refine Q.run zm233 1 (i' := 191) (ls' := [some (.ref 121), some (.int x1), some (.int x2), some (.int x3), none, none, none]) (st' := [.ref 121, .int (sI s4 131 (jN x2)), .ref 121]) rfl ?_
  refine Q.map (A.gf (gI_of zm233 (e := (345, 3, .getfield 41, [9, 13])) rfl) (hq2.1.lt (a := 121) (by decide)) (hq2.1.T (a := 121) (p := (9, 45)) 43 rfl rfl) (by decide) (hq2.1.R 33 rfl)) ?_
  refine Q.run zm233 1 (i' := 193) (ls' := [some (.ref 121), some (.int x1), some (.int x2), some (.int x3), none, none, none]) (st' := [.int x2, .ref 132, .int (sI s4 131 (jN x2)), .ref 121]) rfl ?_
  obtain ⟨hc6, h⟩ := ite_so h
  refine Q.map (A.ia (gI_of zm233 (e := (349, 1, .iaload, [])) rfl) (hq2.1.lt (a := 132) (by decide)) (hq2.1.T (a := 132) (p := (100, 1152)) 54 rfl rfl) hc6) ?_
  refine Q.run zm233 1 (i' := 195) (ls' := [some (.ref 121), some (.int x1), some (.int x2), some (.int x3), none, none, none]) (st' := [.ref 121, .int (sI s4 132 (jN x2)), .int (sI s4 131 (jN x2)), .ref 121]) rfl ?_
  refine Q.map (A.gf (gI_of zm233 (e := (351, 3, .getfield 50, [9, 16])) rfl) (hq2.1.lt (a := 121) (by decide)) (hq2.1.T (a := 121) (p := (9, 45)) 43 rfl rfl) (by decide) (hq2.1.R 36 rfl)) ?_
  refine Q.run zm233 1 (i' := 197) (ls' := [some (.ref 121), some (.int x1), some (.int x2), some (.int x3), none, none, none]) (st' := [.int x2, .ref 135, .int (sI s4 132 (jN x2)), .int (sI s4 131 (jN x2)), .ref 121]) rfl ?_
  obtain ⟨hc7, h⟩ := ite_so h
  refine Q.map (A.ia (gI_of zm233 (e := (355, 1, .iaload, [])) rfl) (hq2.1.lt (a := 135) (by decide)) (hq2.1.T (a := 135) (p := (100, 1152)) 57 rfl rfl) hc7) ?_
  refine Q.run zm233 2 (i' := 200) (ls' := [some (.ref 121), some (.int x1), some (.int x2), some (.int x3), none, none, none]) (st' := [.int ((sI s4 135 (jN x2)) &&& 3), .int (sI s4 132 (jN x2)), .int (sI s4 131 (jN x2)), .ref 121]) rfl ?_
  obtain ⟨s10, hc9, h⟩ := bu_so h
  have hq8 : Q 2 sio tt cc d 241 0 [some (.ref 121), some (.int (sI s4 131 (jN x2))), some (.int (sI s4 132 (jN x2))), some (.int ((sI s4 135 (jN x2)) &&& 3))] [] s4 (.inl none, s10) := dt241 (by omega) hq2.1  hc9
  refine Q.callV (gC_vi zm233 (show zM233.2.2.2.2.2[200]? = some (358, 3, .invokevirtual 365, [0, 241, 3, 9]) from rfl) zm241 (hq2.1.lt (a := 121) (by decide)) (hq2.1.T (a := 121) (p := (9, 45)) 43 rfl rfl) rfl (show aCr 3 121 [.int ((sI s4 135 (jN x2)) &&& 3), .int (sI s4 132 (jN x2)), .int (sI s4 131 (jN x2)), .ref 121] 4 = some ([some (.ref 121), some (.int (sI s4 131 (jN x2))), some (.int (sI s4 132 (jN x2))), some (.int ((sI s4 135 (jN x2)) &&& 3))], []) from rfl)) hq8 ?_
  refine Q.run zm233 2 (i' := 203) (ls' := [some (.ref 121), some (.int x1), some (.int x2), some (.int x3), none, none, none]) (st' := [.int 5, .int x3]) rfl ?_
  by_cases hc11 : x3 = 5
  · rw [if_pos hc11] at h
    refine Q.map (A.bF (gI_of zm233 (e := (363, 3, .if_icmp .ne 48, [231])) rfl) (fun q => of_decide_eq_true q hc11)) ?_
    refine Q.run zm233 2 (i' := 206) (ls' := [some (.ref 121), some (.int x1), some (.int x2), some (.int x3), none, none, none]) (st' := [.int 58, .ref 121]) rfl ?_
    obtain ⟨s14, hc13, h⟩ := bu_so h
    have hq12 : Q 2 sio tt cc d 235 0 [some (.ref 121), some (.int 58)] [] s10 (.inl none, s14) := dt235 (by omega) hq8.1  hc13
    refine Q.callV (gC_vi zm233 (show zM233.2.2.2.2.2[206]? = some (369, 3, .invokevirtual 337, [0, 235, 1, 9]) from rfl) zm235 (hq8.1.lt (a := 121) (by decide)) (hq8.1.T (a := 121) (p := (9, 45)) 43 rfl rfl) rfl (show aCr 1 121 [.int 58, .ref 121] 2 = some ([some (.ref 121), some (.int 58)], []) from rfl)) hq12 ?_
    refine Q.run zm233 2 (i' := 209) (ls' := [some (.ref 121), some (.int x1), some (.int x2), some (.int x3), none, none, none]) (st' := [.ref 121, .ref 121]) rfl ?_
    refine Q.map (A.gf (gI_of zm233 (e := (374, 3, .getfield 44, [9, 14])) rfl) (hq12.1.lt (a := 121) (by decide)) (hq12.1.T (a := 121) (p := (9, 45)) 43 rfl rfl) (by decide) (hq12.1.R 34 rfl)) ?_
    refine Q.run zm233 1 (i' := 211) (ls' := [some (.ref 121), some (.int x1), some (.int x2), some (.int x3), none, none, none]) (st' := [.int x2, .ref 133, .ref 121]) rfl ?_
    obtain ⟨hc15, h⟩ := ite_so h
    refine Q.map (A.ia (gI_of zm233 (e := (378, 1, .iaload, [])) rfl) (hq12.1.lt (a := 133) (by decide)) (hq12.1.T (a := 133) (p := (100, 1152)) 55 rfl rfl) hc15) ?_
    refine Q.run zm233 1 (i' := 213) (ls' := [some (.ref 121), some (.int x1), some (.int x2), some (.int x3), none, none, none]) (st' := [.ref 121, .int (sI s14 133 (jN x2)), .ref 121]) rfl ?_
    refine Q.map (A.gf (gI_of zm233 (e := (380, 3, .getfield 47, [9, 15])) rfl) (hq12.1.lt (a := 121) (by decide)) (hq12.1.T (a := 121) (p := (9, 45)) 43 rfl rfl) (by decide) (hq12.1.R 35 rfl)) ?_
    refine Q.run zm233 1 (i' := 215) (ls' := [some (.ref 121), some (.int x1), some (.int x2), some (.int x3), none, none, none]) (st' := [.int x2, .ref 134, .int (sI s14 133 (jN x2)), .ref 121]) rfl ?_
    obtain ⟨hc16, h⟩ := ite_so h
    refine Q.map (A.ia (gI_of zm233 (e := (384, 1, .iaload, [])) rfl) (hq12.1.lt (a := 134) (by decide)) (hq12.1.T (a := 134) (p := (100, 1152)) 56 rfl rfl) hc16) ?_
    refine Q.run zm233 1 (i' := 217) (ls' := [some (.ref 121), some (.int x1), some (.int x2), some (.int x3), none, none, none]) (st' := [.ref 121, .int (sI s14 134 (jN x2)), .int (sI s14 133 (jN x2)), .ref 121]) rfl ?_
    refine Q.map (A.gf (gI_of zm233 (e := (386, 3, .getfield 50, [9, 16])) rfl) (hq12.1.lt (a := 121) (by decide)) (hq12.1.T (a := 121) (p := (9, 45)) 43 rfl rfl) (by decide) (hq12.1.R 36 rfl)) ?_
    refine Q.run zm233 1 (i' := 219) (ls' := [some (.ref 121), some (.int x1), some (.int x2), some (.int x3), none, none, none]) (st' := [.int x2, .ref 135, .int (sI s14 134 (jN x2)), .int (sI s14 133 (jN x2)), .ref 121]) rfl ?_
    obtain ⟨hc17, h⟩ := ite_so h
    refine Q.map (A.ia (gI_of zm233 (e := (390, 1, .iaload, [])) rfl) (hq12.1.lt (a := 135) (by decide)) (hq12.1.T (a := 135) (p := (100, 1152)) 57 rfl rfl) hc17) ?_
    refine Q.run zm233 2 (i' := 222) (ls' := [some (.ref 121), some (.int x1), some (.int x2), some (.int x3), none, none, none]) (st' := [.int ((sI s14 135 (jN x2)) >>> ((2 : Int32) &&& 31)), .int (sI s14 134 (jN x2)), .int (sI s14 133 (jN x2)), .ref 121]) rfl ?_
    obtain ⟨s20, hc19, h⟩ := bu_so h
    have hq18 : Q 2 sio tt cc d 241 0 [some (.ref 121), some (.int (sI s14 133 (jN x2))), some (.int (sI s14 134 (jN x2))), some (.int ((sI s14 135 (jN x2)) >>> ((2 : Int32) &&& 31)))] [] s14 (.inl none, s20) := dt241 (by omega) hq12.1  hc19
    refine Q.callV (gC_vi zm233 (show zM233.2.2.2.2.2[222]? = some (393, 3, .invokevirtual 365, [0, 241, 3, 9]) from rfl) zm241 (hq12.1.lt (a := 121) (by decide)) (hq12.1.T (a := 121) (p := (9, 45)) 43 rfl rfl) rfl (show aCr 3 121 [.int ((sI s14 135 (jN x2)) >>> ((2 : Int32) &&& 31)), .int (sI s14 134 (jN x2)), .int (sI s14 133 (jN x2)), .ref 121] 4 = some ([some (.ref 121), some (.int (sI s14 133 (jN x2))), some (.int (sI s14 134 (jN x2))), some (.int ((sI s14 135 (jN x2)) >>> ((2 : Int32) &&& 31)))], []) from rfl)) hq18 ?_
    refine Q.run zm233 1 (i' := 231) (ls' := [some (.ref 121), some (.int x1), some (.int x2), some (.int x3), none, none, none]) (st' := []) rfl ?_
    exact dt233_231 (by omega) hrc hq18.1  h
  · rw [if_neg hc11] at h
    refine Q.map (A.bT (gI_of zm233 (e := (363, 3, .if_icmp .ne 48, [231])) rfl) (decide_eq_true hc11)) ?_
    exact dt233_231 (by omega) hrc hq8.1  h
def dm233_158 (rc : Int32 → Int32 → aS → Option (Int32 × aS)) : Nat → Int32 → Int64 → Int32 → aS → Option (Int32 × aS)
  | 0, _, _, _, _ => none
  | n + 1, x2, x4, x6, s =>
    if x6 < 0 then
      dm233_231 rc x2 s
    else
      bu (dm235 (((x4 >>> ((8 * x6).toInt64 &&& 63)) &&& 255).toInt32) s) fun s4 =>
      dm233_158 rc n x2 x4 (x6 + (-1)) s4
set_option maxRecDepth 100000 in
theorem dt233_158 {sio : Bool} {tt : Nat} {cc : Nat → Nat → Int32} {d : Nat} {m : Nat} (hd : 12 + 3 * m + 2 ≤ d) {rc : Int32 → Int32 → aS → Option (Int32 × aS)} (hrc : ∀ {d : Nat}, 12 + 3 * m ≤ d → ∀ {x1 x2 : Int32} {s : aS}, Ly tt cc s → ∀ {o : Int32 × aS}, rc x1 x2 s = some o → Q 2 sio tt cc d 233 0 [some (.ref 121), some (.int x1), some (.int x2), none, none, none, none] [] s (.inl (some (.int o.1)), o.2)) : ∀ (n : Nat) {x2 : Int32} {x4 : Int64} {x6 : Int32} {x1 : Int32} {x3 : Int32} {s : aS} (_ : Ly tt cc s) {o : Int32 × aS} (_ : dm233_158 rc n x2 x4 x6 s = some o), Q 2 sio tt cc d 233 158 [some (.ref 121), some (.int x1), some (.int x2), some (.int x3), some (.long x4), none, some (.int x6)] [] s (.inl (some (.int o.1)), o.2) := by
  obtain ⟨d, rfl⟩ : ∃ e, d = e + 1 := ⟨d - 1, by omega⟩
  intro n
  induction n with
  | zero => intro x2 x4 x6 x1 x3 s hl o h; rw [dm233_158] at h; cases h
  | succ n ih =>
    intro x2 x4 x6 x1 x3 s hl o h
    rw [dm233_158] at h
    refine Q.run zm233 1 (i' := 159) (ls' := [some (.ref 121), some (.int x1), some (.int x2), some (.int x3), some (.long x4), none, some (.int x6)]) (st' := [.int x6]) rfl ?_
    by_cases hc1 : x6 < 0
    · rw [if_pos hc1] at h
      refine Q.map (A.zT (gI_of zm233 (e := (288, 3, .ifCond .lt 26, [172])) rfl) (decide_eq_true hc1)) ?_
      refine Q.run zm233 1 (i' := 231) (ls' := [some (.ref 121), some (.int x1), some (.int x2), some (.int x3), some (.long x4), none, some (.int x6)]) (st' := []) rfl ?_
      exact dt233_231 (by omega) hrc hl  h
    · rw [if_neg hc1] at h
      refine Q.map (A.zF (gI_of zm233 (e := (288, 3, .ifCond .lt 26, [172])) rfl) (fun q => hc1 (of_decide_eq_true q))) ?_
      refine Q.run zm233 9 (i' := 169) (ls' := [some (.ref 121), some (.int x1), some (.int x2), some (.int x3), some (.long x4), none, some (.int x6)]) (st' := [.int (((x4 >>> ((8 * x6).toInt64 &&& 63)) &&& 255).toInt32), .ref 121]) rfl ?_
      obtain ⟨s4, hc3, h⟩ := bu_so h
      have hq2 : Q 2 sio tt cc d 235 0 [some (.ref 121), some (.int (((x4 >>> ((8 * x6).toInt64 &&& 63)) &&& 255).toInt32))] [] s (.inl none, s4) := dt235 (by omega) hl  hc3
      refine Q.callV (gC_vi zm233 (show zM233.2.2.2.2.2[169]? = some (305, 3, .invokevirtual 337, [0, 235, 1, 9]) from rfl) zm235 (hl.lt (a := 121) (by decide)) (hl.T (a := 121) (p := (9, 45)) 43 rfl rfl) rfl (show aCr 1 121 [.int (((x4 >>> ((8 * x6).toInt64 &&& 63)) &&& 255).toInt32), .ref 121] 2 = some ([some (.ref 121), some (.int (((x4 >>> ((8 * x6).toInt64 &&& 63)) &&& 255).toInt32))], []) from rfl)) hq2 ?_
      refine Q.run zm233 2 (i' := 158) (ls' := [some (.ref 121), some (.int x1), some (.int x2), some (.int x3), some (.long x4), none, some (.int (x6 + (-1)))]) (st' := []) rfl ?_
      exact ih hq2.1  h
def dm233_117 (rc : Int32 → Int32 → aS → Option (Int32 × aS)) : Nat → Int32 → Int32 → aS → Option (Int32 × aS)
  | 0, _, _, _ => none
  | n + 1, x2, x4, s =>
    if aB x2 1152 then
      bu (dm204 (sI s 136 (jN x2)) x4) fun r4 =>
      if r4 ≤ 0 then
        dm233_231 rc x2 s
      else
        if aB x2 1152 then
          bu (dm204 (sI s 136 (jN x2)) x4) fun r9 =>
          bu (dm235 r9 s) fun s12 =>
          dm233_117 rc n x2 (x4 + 1) s12
        else none
    else none
set_option maxRecDepth 100000 in
theorem dt233_117 {sio : Bool} {tt : Nat} {cc : Nat → Nat → Int32} {d : Nat} {m : Nat} (hd : 12 + 3 * m + 2 ≤ d) {rc : Int32 → Int32 → aS → Option (Int32 × aS)} (hrc : ∀ {d : Nat}, 12 + 3 * m ≤ d → ∀ {x1 x2 : Int32} {s : aS}, Ly tt cc s → ∀ {o : Int32 × aS}, rc x1 x2 s = some o → Q 2 sio tt cc d 233 0 [some (.ref 121), some (.int x1), some (.int x2), none, none, none, none] [] s (.inl (some (.int o.1)), o.2)) : ∀ (n : Nat) {x2 : Int32} {x4 : Int32} {x1 : Int32} {x3 : Int32} {s : aS} (_ : Ly tt cc s) {o : Int32 × aS} (_ : dm233_117 rc n x2 x4 s = some o), Q 2 sio tt cc d 233 117 [some (.ref 121), some (.int x1), some (.int x2), some (.int x3), some (.int x4), none, none] [] s (.inl (some (.int o.1)), o.2) := by
  obtain ⟨d, rfl⟩ : ∃ e, d = e + 1 := ⟨d - 1, by omega⟩
  intro n
  induction n with
  | zero => intro x2 x4 x1 x3 s hl o h; rw [dm233_117] at h; cases h
  | succ n ih =>
    intro x2 x4 x1 x3 s hl o h
    rw [dm233_117] at h
    refine Q.run zm233 1 (i' := 118) (ls' := [some (.ref 121), some (.int x1), some (.int x2), some (.int x3), some (.int x4), none, none]) (st' := [.ref 121]) rfl ?_
    refine Q.map (A.gf (gI_of zm233 (e := (206, 3, .getfield 53, [9, 17])) rfl) (hl.lt (a := 121) (by decide)) (hl.T (a := 121) (p := (9, 45)) 43 rfl rfl) (by decide) (hl.R 37 rfl)) ?_
    refine Q.run zm233 1 (i' := 120) (ls' := [some (.ref 121), some (.int x1), some (.int x2), some (.int x3), some (.int x4), none, none]) (st' := [.int x2, .ref 136]) rfl ?_
    obtain ⟨hc1, h⟩ := ite_so h
    refine Q.map (A.ia (gI_of zm233 (e := (210, 1, .iaload, [])) rfl) (hl.lt (a := 136) (by decide)) (hl.T (a := 136) (p := (100, 1152)) 58 rfl rfl) hc1) ?_
    refine Q.run zm233 1 (i' := 122) (ls' := [some (.ref 121), some (.int x1), some (.int x2), some (.int x3), some (.int x4), none, none]) (st' := [.int x4, .int (sI s 136 (jN x2))]) rfl ?_
    obtain ⟨r4, hc3, h⟩ := bu_so h
    have hq2 : Q 2 sio tt cc d 204 0 [some (.int (sI s 136 (jN x2))), some (.int x4), none, none, none] [] s (.inl (some (.int r4)), s) := dt204 (by omega) hl  hc3
    refine Q.callI (gC_st zm233 (show zM233.2.2.2.2.2[122]? = some (213, 3, .invokestatic 196, [0, 204, 2]) from rfl) zm204 (show aC 2 [.int x4, .int (sI s 136 (jN x2))] 5 = some ([some (.int (sI s 136 (jN x2))), some (.int x4), none, none, none], []) from rfl)) hq2 ?_
    by_cases hc5 : r4 ≤ 0
    · rw [if_pos hc5] at h
      refine Q.map (A.zT (gI_of zm233 (e := (216, 3, .ifCond .le 24, [134])) rfl) (decide_eq_true hc5)) ?_
      refine Q.run zm233 1 (i' := 231) (ls' := [some (.ref 121), some (.int x1), some (.int x2), some (.int x3), some (.int x4), none, none]) (st' := []) rfl ?_
      exact dt233_231 (by omega) hrc hl  h
    · rw [if_neg hc5] at h
      refine Q.map (A.zF (gI_of zm233 (e := (216, 3, .ifCond .le 24, [134])) rfl) (fun q => hc5 (of_decide_eq_true q))) ?_
      refine Q.run zm233 2 (i' := 126) (ls' := [some (.ref 121), some (.int x1), some (.int x2), some (.int x3), some (.int x4), none, none]) (st' := [.ref 121, .ref 121]) rfl ?_
      refine Q.map (A.gf (gI_of zm233 (e := (221, 3, .getfield 53, [9, 17])) rfl) (hl.lt (a := 121) (by decide)) (hl.T (a := 121) (p := (9, 45)) 43 rfl rfl) (by decide) (hl.R 37 rfl)) ?_
      refine Q.run zm233 1 (i' := 128) (ls' := [some (.ref 121), some (.int x1), some (.int x2), some (.int x3), some (.int x4), none, none]) (st' := [.int x2, .ref 136, .ref 121]) rfl ?_
      obtain ⟨hc6, h⟩ := ite_so h
      refine Q.map (A.ia (gI_of zm233 (e := (225, 1, .iaload, [])) rfl) (hl.lt (a := 136) (by decide)) (hl.T (a := 136) (p := (100, 1152)) 58 rfl rfl) hc6) ?_
      refine Q.run zm233 1 (i' := 130) (ls' := [some (.ref 121), some (.int x1), some (.int x2), some (.int x3), some (.int x4), none, none]) (st' := [.int x4, .int (sI s 136 (jN x2)), .ref 121]) rfl ?_
      obtain ⟨r9, hc8, h⟩ := bu_so h
      have hq7 : Q 2 sio tt cc d 204 0 [some (.int (sI s 136 (jN x2))), some (.int x4), none, none, none] [] s (.inl (some (.int r9)), s) := dt204 (by omega) hl  hc8
      refine Q.callI (gC_st zm233 (show zM233.2.2.2.2.2[130]? = some (228, 3, .invokestatic 196, [0, 204, 2]) from rfl) zm204 (show aC 2 [.int x4, .int (sI s 136 (jN x2)), .ref 121] 5 = some ([some (.int (sI s 136 (jN x2))), some (.int x4), none, none, none], [.ref 121]) from rfl)) hq7 ?_
      obtain ⟨s12, hc11, h⟩ := bu_so h
      have hq10 : Q 2 sio tt cc d 235 0 [some (.ref 121), some (.int r9)] [] s (.inl none, s12) := dt235 (by omega) hl  hc11
      refine Q.callV (gC_vi zm233 (show zM233.2.2.2.2.2[131]? = some (231, 3, .invokevirtual 337, [0, 235, 1, 9]) from rfl) zm235 (hl.lt (a := 121) (by decide)) (hl.T (a := 121) (p := (9, 45)) 43 rfl rfl) rfl (show aCr 1 121 [.int r9, .ref 121] 2 = some ([some (.ref 121), some (.int r9)], []) from rfl)) hq10 ?_
      refine Q.run zm233 2 (i' := 117) (ls' := [some (.ref 121), some (.int x1), some (.int x2), some (.int x3), some (.int (x4 + 1)), none, none]) (st' := []) rfl ?_
      exact ih hq10.1  h
def dm233_98 (rc : Int32 → Int32 → aS → Option (Int32 × aS)) (x1 : Int32) (x3 : Int32) (x4 : Int32) (x5 : Int32) (s : aS) : Option (Int32 × aS) :=
  if x3 ≤ 20 then
    dm233_104 rc x1 x4 x5 s
  else
    bu (dm235 61 s) fun s4 =>
    dm233_104 rc x1 x4 x5 s4
set_option maxRecDepth 100000 in
theorem dt233_98 {sio : Bool} {tt : Nat} {cc : Nat → Nat → Int32} {d : Nat} {m : Nat} (hd : 12 + 3 * m + 2 ≤ d) {rc : Int32 → Int32 → aS → Option (Int32 × aS)} (hrc : ∀ {d : Nat}, 12 + 3 * m ≤ d → ∀ {x1 x2 : Int32} {s : aS}, Ly tt cc s → ∀ {o : Int32 × aS}, rc x1 x2 s = some o → Q 2 sio tt cc d 233 0 [some (.ref 121), some (.int x1), some (.int x2), none, none, none, none] [] s (.inl (some (.int o.1)), o.2)) {x1 : Int32} {x3 : Int32} {x4 : Int32} {x5 : Int32} {x2 : Int32} {s : aS} (hl : Ly tt cc s) {o : Int32 × aS} (h : dm233_98 rc x1 x3 x4 x5 s = some o) : Q 2 sio tt cc d 233 98 [some (.ref 121), some (.int x1), some (.int x2), some (.int x3), some (.int x4), some (.int x5), none] [] s (.inl (some (.int o.1)), o.2) := by
  unfold dm233_98 at h
  obtain ⟨d, rfl⟩ : ∃ e, d = e + 1 := ⟨d - 1, by omega⟩
  refine Q.run zm233 2 (i' := 100) (ls' := [some (.ref 121), some (.int x1), some (.int x2), some (.int x3), some (.int x4), some (.int x5), none]) (st' := [.int 20, .int x3]) rfl ?_
  by_cases hc1 : x3 ≤ 20
  · rw [if_pos hc1] at h
    refine Q.map (A.bT (gI_of zm233 (e := (176, 3, .if_icmp .le 9, [104])) rfl) (decide_eq_true hc1)) ?_
    exact dt233_104 (by omega) hrc hl  h
  · rw [if_neg hc1] at h
    refine Q.map (A.bF (gI_of zm233 (e := (176, 3, .if_icmp .le 9, [104])) rfl) (fun q => hc1 (of_decide_eq_true q))) ?_
    refine Q.run zm233 2 (i' := 103) (ls' := [some (.ref 121), some (.int x1), some (.int x2), some (.int x3), some (.int x4), some (.int x5), none]) (st' := [.int 61, .ref 121]) rfl ?_
    obtain ⟨s4, hc3, h⟩ := bu_so h
    have hq2 : Q 2 sio tt cc d 235 0 [some (.ref 121), some (.int 61)] [] s (.inl none, s4) := dt235 (by omega) hl  hc3
    refine Q.callV (gC_vi zm233 (show zM233.2.2.2.2.2[103]? = some (182, 3, .invokevirtual 337, [0, 235, 1, 9]) from rfl) zm235 (hl.lt (a := 121) (by decide)) (hl.T (a := 121) (p := (9, 45)) 43 rfl rfl) rfl (show aCr 1 121 [.int 61, .ref 121] 2 = some ([some (.ref 121), some (.int 61)], []) from rfl)) hq2 ?_
    exact dt233_104 (by omega) hrc hq2.1  h
def dm233_21 (rc : Int32 → Int32 → aS → Option (Int32 × aS)) : Nat → Int32 → Int32 → Int32 → Int32 → aS → Option (Int32 × aS)
  | 0, _, _, _, _, _ => none
  | n + 1, x1, x2, x4, x5, s =>
    if aB x2 1152 then
      if (sI s 129 (jN x2)) ≤ x5 then
        bu (dm235 41 s) fun s5 =>
        some (x4, s5)
      else
        if x5 ≤ 0 then
          dm233_32 rc (dm233_21 rc n) x1 x2 x4 x5 s
        else
          bu (dm235 44 s) fun s9 =>
          dm233_32 rc (dm233_21 rc n) x1 x2 x4 x5 s9
    else none
set_option maxRecDepth 100000 in
theorem dt233_21 {sio : Bool} {tt : Nat} {cc : Nat → Nat → Int32} {d : Nat} {m : Nat} (hd : 12 + 3 * m + 2 ≤ d) {rc : Int32 → Int32 → aS → Option (Int32 × aS)} (hrc : ∀ {d : Nat}, 12 + 3 * m ≤ d → ∀ {x1 x2 : Int32} {s : aS}, Ly tt cc s → ∀ {o : Int32 × aS}, rc x1 x2 s = some o → Q 2 sio tt cc d 233 0 [some (.ref 121), some (.int x1), some (.int x2), none, none, none, none] [] s (.inl (some (.int o.1)), o.2)) : ∀ (n : Nat) {x1 : Int32} {x2 : Int32} {x4 : Int32} {x5 : Int32} {x3 : Int32} {s : aS} (_ : Ly tt cc s) {o : Int32 × aS} (_ : dm233_21 rc n x1 x2 x4 x5 s = some o), Q 2 sio tt cc d 233 21 [some (.ref 121), some (.int x1), some (.int x2), some (.int x3), some (.int x4), some (.int x5), none] [] s (.inl (some (.int o.1)), o.2) := by
  obtain ⟨d, rfl⟩ : ∃ e, d = e + 1 := ⟨d - 1, by omega⟩
  intro n
  induction n with
  | zero => intro x1 x2 x4 x5 x3 s hl o h; rw [dm233_21] at h; cases h
  | succ n ih =>
    intro x1 x2 x4 x5 x3 s hl o h
    rw [dm233_21] at h
    refine Q.run zm233 2 (i' := 23) (ls' := [some (.ref 121), some (.int x1), some (.int x2), some (.int x3), some (.int x4), some (.int x5), none]) (st' := [.ref 121, .int x5]) rfl ?_
    refine Q.map (A.gf (gI_of zm233 (e := (36, 3, .getfield 32, [9, 10])) rfl) (hl.lt (a := 121) (by decide)) (hl.T (a := 121) (p := (9, 45)) 43 rfl rfl) (by decide) (hl.R 30 rfl)) ?_
    refine Q.run zm233 1 (i' := 25) (ls' := [some (.ref 121), some (.int x1), some (.int x2), some (.int x3), some (.int x4), some (.int x5), none]) (st' := [.int x2, .ref 129, .int x5]) rfl ?_
    obtain ⟨hc1, h⟩ := ite_so h
    refine Q.map (A.ia (gI_of zm233 (e := (40, 1, .iaload, [])) rfl) (hl.lt (a := 129) (by decide)) (hl.T (a := 129) (p := (100, 1152)) 51 rfl rfl) hc1) ?_
    by_cases hc2 : (sI s 129 (jN x2)) ≤ x5
    · rw [if_pos hc2] at h
      refine Q.map (A.bT (gI_of zm233 (e := (41, 3, .if_icmp .ge 29, [39])) rfl) (decide_eq_true hc2)) ?_
      refine Q.run zm233 2 (i' := 41) (ls' := [some (.ref 121), some (.int x1), some (.int x2), some (.int x3), some (.int x4), some (.int x5), none]) (st' := [.int 41, .ref 121]) rfl ?_
      obtain ⟨s5, hc4, h⟩ := bu_so h
      have hq3 : Q 2 sio tt cc d 235 0 [some (.ref 121), some (.int 41)] [] s (.inl none, s5) := dt235 (by omega) hl  hc4
      refine Q.callV (gC_vi zm233 (show zM233.2.2.2.2.2[41]? = some (73, 3, .invokevirtual 337, [0, 235, 1, 9]) from rfl) zm235 (hl.lt (a := 121) (by decide)) (hl.T (a := 121) (p := (9, 45)) 43 rfl rfl) rfl (show aCr 1 121 [.int 41, .ref 121] 2 = some ([some (.ref 121), some (.int 41)], []) from rfl)) hq3 ?_
      refine Q.run zm233 1 (i' := 43) (ls' := [some (.ref 121), some (.int x1), some (.int x2), some (.int x3), some (.int x4), some (.int x5), none]) (st' := [.int x4]) rfl ?_
      cases h
      exact Q.ret (A.ri zm233 (show zM233.2.2.2.2.2[43]? = some (78, 1, .ireturn, []) from rfl) rfl rfl) hq3.1
    · rw [if_neg hc2] at h
      refine Q.map (A.bF (gI_of zm233 (e := (41, 3, .if_icmp .ge 29, [39])) rfl) (fun q => hc2 (of_decide_eq_true q))) ?_
      refine Q.run zm233 1 (i' := 28) (ls' := [some (.ref 121), some (.int x1), some (.int x2), some (.int x3), some (.int x4), some (.int x5), none]) (st' := [.int x5]) rfl ?_
      by_cases hc6 : x5 ≤ 0
      · rw [if_pos hc6] at h
        refine Q.map (A.zT (gI_of zm233 (e := (46, 3, .ifCond .le 9, [32])) rfl) (decide_eq_true hc6)) ?_
        exact dt233_32 (by omega) hrc ih hl  h
      · rw [if_neg hc6] at h
        refine Q.map (A.zF (gI_of zm233 (e := (46, 3, .ifCond .le 9, [32])) rfl) (fun q => hc6 (of_decide_eq_true q))) ?_
        refine Q.run zm233 2 (i' := 31) (ls' := [some (.ref 121), some (.int x1), some (.int x2), some (.int x3), some (.int x4), some (.int x5), none]) (st' := [.int 44, .ref 121]) rfl ?_
        obtain ⟨s9, hc8, h⟩ := bu_so h
        have hq7 : Q 2 sio tt cc d 235 0 [some (.ref 121), some (.int 44)] [] s (.inl none, s9) := dt235 (by omega) hl  hc8
        refine Q.callV (gC_vi zm233 (show zM233.2.2.2.2.2[31]? = some (52, 3, .invokevirtual 337, [0, 235, 1, 9]) from rfl) zm235 (hl.lt (a := 121) (by decide)) (hl.T (a := 121) (p := (9, 45)) 43 rfl rfl) rfl (show aCr 1 121 [.int 44, .ref 121] 2 = some ([some (.ref 121), some (.int 44)], []) from rfl)) hq7 ?_
        exact dt233_32 (by omega) hrc ih hq7.1  h
def dm233_157 (rc : Int32 → Int32 → aS → Option (Int32 × aS)) (x2 : Int32) (x4 : Int64) (y0 : Int32) (s : aS) : Option (Int32 × aS) :=
  dm233_158 rc 5000 x2 x4 y0 s
set_option maxRecDepth 100000 in
theorem dt233_157 {sio : Bool} {tt : Nat} {cc : Nat → Nat → Int32} {d : Nat} {m : Nat} (hd : 12 + 3 * m + 2 ≤ d) {rc : Int32 → Int32 → aS → Option (Int32 × aS)} (hrc : ∀ {d : Nat}, 12 + 3 * m ≤ d → ∀ {x1 x2 : Int32} {s : aS}, Ly tt cc s → ∀ {o : Int32 × aS}, rc x1 x2 s = some o → Q 2 sio tt cc d 233 0 [some (.ref 121), some (.int x1), some (.int x2), none, none, none, none] [] s (.inl (some (.int o.1)), o.2)) {x2 : Int32} {x4 : Int64} {y0 : Int32} {x1 : Int32} {x3 : Int32} {s : aS} (hl : Ly tt cc s) {o : Int32 × aS} (h : dm233_157 rc x2 x4 y0 s = some o) : Q 2 sio tt cc d 233 157 [some (.ref 121), some (.int x1), some (.int x2), some (.int x3), some (.long x4), none, none] [.int y0] s (.inl (some (.int o.1)), o.2) := by
  unfold dm233_157 at h
  obtain ⟨d, rfl⟩ : ∃ e, d = e + 1 := ⟨d - 1, by omega⟩
  refine Q.run zm233 1 (i' := 158) (ls' := [some (.ref 121), some (.int x1), some (.int x2), some (.int x3), some (.long x4), none, some (.int y0)]) (st' := []) rfl ?_
  exact dt233_158 (by omega) hrc _ hl  h
def dm233_147 (rc : Int32 → Int32 → aS → Option (Int32 × aS)) (x2 : Int32) (y0 : Int64) (s : aS) : Option (Int32 × aS) :=
  if aB x2 1152 then
    if (sI s 136 (jN x2)) = 1 then
      dm233_157 rc x2 y0 3 s
    else
      dm233_157 rc x2 y0 4 s
  else none
set_option maxRecDepth 100000 in
theorem dt233_147 {sio : Bool} {tt : Nat} {cc : Nat → Nat → Int32} {d : Nat} {m : Nat} (hd : 12 + 3 * m + 2 ≤ d) {rc : Int32 → Int32 → aS → Option (Int32 × aS)} (hrc : ∀ {d : Nat}, 12 + 3 * m ≤ d → ∀ {x1 x2 : Int32} {s : aS}, Ly tt cc s → ∀ {o : Int32 × aS}, rc x1 x2 s = some o → Q 2 sio tt cc d 233 0 [some (.ref 121), some (.int x1), some (.int x2), none, none, none, none] [] s (.inl (some (.int o.1)), o.2)) {x2 : Int32} {y0 : Int64} {x1 : Int32} {x3 : Int32} {s : aS} (hl : Ly tt cc s) {o : Int32 × aS} (h : dm233_147 rc x2 y0 s = some o) : Q 2 sio tt cc d 233 147 [some (.ref 121), some (.int x1), some (.int x2), some (.int x3), none, none, none] [.long y0] s (.inl (some (.int o.1)), o.2) := by
  unfold dm233_147 at h
  obtain ⟨d, rfl⟩ : ∃ e, d = e + 1 := ⟨d - 1, by omega⟩
  refine Q.run zm233 2 (i' := 149) (ls' := [some (.ref 121), some (.int x1), some (.int x2), some (.int x3), some (.long y0), none, none]) (st' := [.ref 121]) rfl ?_
  refine Q.map (A.gf (gI_of zm233 (e := (270, 3, .getfield 53, [9, 17])) rfl) (hl.lt (a := 121) (by decide)) (hl.T (a := 121) (p := (9, 45)) 43 rfl rfl) (by decide) (hl.R 37 rfl)) ?_
  refine Q.run zm233 1 (i' := 151) (ls' := [some (.ref 121), some (.int x1), some (.int x2), some (.int x3), some (.long y0), none, none]) (st' := [.int x2, .ref 136]) rfl ?_
  obtain ⟨hc1, h⟩ := ite_so h
  refine Q.map (A.ia (gI_of zm233 (e := (274, 1, .iaload, [])) rfl) (hl.lt (a := 136) (by decide)) (hl.T (a := 136) (p := (100, 1152)) 58 rfl rfl) hc1) ?_
  refine Q.run zm233 1 (i' := 153) (ls' := [some (.ref 121), some (.int x1), some (.int x2), some (.int x3), some (.long y0), none, none]) (st' := [.int 1, .int (sI s 136 (jN x2))]) rfl ?_
  by_cases hc2 : (sI s 136 (jN x2)) = 1
  · rw [if_pos hc2] at h
    refine Q.map (A.bF (gI_of zm233 (e := (276, 3, .if_icmp .ne 7, [156])) rfl) (fun q => of_decide_eq_true q hc2)) ?_
    refine Q.run zm233 2 (i' := 157) (ls' := [some (.ref 121), some (.int x1), some (.int x2), some (.int x3), some (.long y0), none, none]) (st' := [.int 3]) rfl ?_
    exact dt233_157 (by omega) hrc hl  h
  · rw [if_neg hc2] at h
    refine Q.map (A.bT (gI_of zm233 (e := (276, 3, .if_icmp .ne 7, [156])) rfl) (decide_eq_true hc2)) ?_
    refine Q.run zm233 1 (i' := 157) (ls' := [some (.ref 121), some (.int x1), some (.int x2), some (.int x3), some (.long y0), none, none]) (st' := [.int 4]) rfl ?_
    exact dt233_157 (by omega) hrc hl  h
def dm233 : Nat → Int32 → Int32 → aS → Option (Int32 × aS)
  | 0, _, _, _ => none
  | n + 1, x1, x2, s => nx (dm233 n) fun rc =>
    if aB x2 1152 then
      if (sI s 128 (jN x2)) = 7 then
        bu (dm234 x1 x2 s) fun s5 =>
        bu (dm235 40 s5) fun s8 =>
        dm233_21 rc 5000 x1 x2 (x2 + 1) 0 s8
      else
        if (sI s 128 (jN x2)) = 9 then
          bv (dm236 rc x1 (x2 + 1) 7 s) fun r13 s12 =>
          bu (dm235 37 s12) fun s16 =>
          some (r13, s16)
        else
          if (sI s 128 (jN x2)) = 10 then
            bu (dm235 45 s) fun s20 =>
            bv (dm236 rc x1 (x2 + 1) 6 s20) fun r24 s23 =>
            some (r24, s23)
          else
            if (sI s 128 (jN x2)) < 11 then
              if (sI s 128 (jN x2)) = 2 then
                dm233_117 rc 5000 x2 0 s
              else
                if (sI s 128 (jN x2)) = 3 then
                  if aB x2 1152 then
                    if (sI s 136 (jN x2)) = 1 then
                      dm233_147 rc x2 1414681925 s
                    else
                      dm233_147 rc x2 301743231813 s
                  else none
                else
                  if (sI s 128 (jN x2)) = 4 then
                    dm233_179 rc x2 (sI s 128 (jN x2)) s
                  else
                    if (sI s 128 (jN x2)) = 5 then
                      dm233_179 rc x2 (sI s 128 (jN x2)) s
                    else
                      if (sI s 128 (jN x2)) = 8 then
                        dm233_231 rc x2 s
                      else
                        bu (dm234 x1 x2 s) fun s35 =>
                        dm233_231 rc x2 s35
            else
              bu (dm191 (sI s 128 (jN x2))) fun r38 =>
              bv (dm236 rc x1 (x2 + 1) r38 s) fun r42 s41 =>
              bu (dm237 (sI s 128 (jN x2))) fun r45 =>
              bu (dm235 r45 s41) fun s48 =>
              if (sI s 128 (jN x2)) = 18 then
                bu (dm235 62 s48) fun s52 =>
                dm233_98 rc x1 (sI s 128 (jN x2)) r38 r42 s52
              else
                dm233_98 rc x1 (sI s 128 (jN x2)) r38 r42 s48
    else none
set_option maxRecDepth 100000 in
theorem dt233 {sio : Bool} {tt : Nat} {cc : Nat → Nat → Int32} : ∀ (m : Nat) {d : Nat} (_ : 12 + 3 * m ≤ d) {x1 : Int32} {x2 : Int32} {s : aS} (_ : Ly tt cc s) {o : Int32 × aS} (_ : dm233 m x1 x2 s = some o), Q 2 sio tt cc d 233 0 [some (.ref 121), some (.int x1), some (.int x2), none, none, none, none] [] s (.inl (some (.int o.1)), o.2) := by
  intro m
  induction m with
  | zero => intro d hd x1 x2 s hl o h; rw [dm233] at h; cases h
  | succ m ih =>
    intro d hd x1 x2 s hl o h
    rw [dm233] at h
    obtain ⟨rc, hrc0, h⟩ := nx_so h
    have hrc : ∀ {d : Nat}, 12 + 3 * m ≤ d → ∀ {x1 x2 : Int32} {s : aS}, Ly tt cc s → ∀ {o : Int32 × aS}, rc x1 x2 s = some o → Q 2 sio tt cc d 233 0 [some (.ref 121), some (.int x1), some (.int x2), none, none, none, none] [] s (.inl (some (.int o.1)), o.2) := fun h1 _ _ _ h2 _ h3 => ih h1 h2 (by rw [← hrc0]; exact h3)
    clear hrc0 ih
    obtain ⟨d, rfl⟩ : ∃ e, d = e + 1 := ⟨d - 1, by omega⟩
    refine Q.run zm233 1 (i' := 1) (ls' := [some (.ref 121), some (.int x1), some (.int x2), none, none, none, none]) (st' := [.ref 121]) rfl ?_
    refine Q.map (A.gf (gI_of zm233 (e := (1, 3, .getfield 29, [9, 9])) rfl) (hl.lt (a := 121) (by decide)) (hl.T (a := 121) (p := (9, 45)) 43 rfl rfl) (by decide) (hl.R 29 rfl)) ?_
    refine Q.run zm233 1 (i' := 3) (ls' := [some (.ref 121), some (.int x1), some (.int x2), none, none, none, none]) (st' := [.int x2, .ref 128]) rfl ?_
    obtain ⟨hc1, h⟩ := ite_so h
    refine Q.map (A.ia (gI_of zm233 (e := (5, 1, .iaload, [])) rfl) (hl.lt (a := 128) (by decide)) (hl.T (a := 128) (p := (100, 1152)) 50 rfl rfl) hc1) ?_
    refine Q.run zm233 3 (i' := 7) (ls' := [some (.ref 121), some (.int x1), some (.int x2), some (.int (sI s 128 (jN x2))), none, none, none]) (st' := [.int 7, .int (sI s 128 (jN x2))]) rfl ?_
    by_cases hc2 : (sI s 128 (jN x2)) = 7
    · rw [if_pos hc2] at h
      refine Q.map (A.bF (gI_of zm233 (e := (10, 3, .if_icmp .ne 69, [44])) rfl) (fun q => of_decide_eq_true q hc2)) ?_
      refine Q.run zm233 3 (i' := 11) (ls' := [some (.ref 121), some (.int x1), some (.int x2), some (.int (sI s 128 (jN x2))), none, none, none]) (st' := [.int x2, .int x1, .ref 121]) rfl ?_
      obtain ⟨s5, hc4, h⟩ := bu_so h
      have hq3 : Q 2 sio tt cc d 234 0 [some (.ref 121), some (.int x1), some (.int x2), none] [] s (.inl none, s5) := dt234 (by omega) hl  hc4
      refine Q.callV (gC_vi zm233 (show zM233.2.2.2.2.2[11]? = some (16, 3, .invokevirtual 353, [0, 234, 2, 9]) from rfl) zm234 (hl.lt (a := 121) (by decide)) (hl.T (a := 121) (p := (9, 45)) 43 rfl rfl) rfl (show aCr 2 121 [.int x2, .int x1, .ref 121] 4 = some ([some (.ref 121), some (.int x1), some (.int x2), none], []) from rfl)) hq3 ?_
      refine Q.run zm233 2 (i' := 14) (ls' := [some (.ref 121), some (.int x1), some (.int x2), some (.int (sI s 128 (jN x2))), none, none, none]) (st' := [.int 40, .ref 121]) rfl ?_
      obtain ⟨s8, hc7, h⟩ := bu_so h
      have hq6 : Q 2 sio tt cc d 235 0 [some (.ref 121), some (.int 40)] [] s5 (.inl none, s8) := dt235 (by omega) hq3.1  hc7
      refine Q.callV (gC_vi zm233 (show zM233.2.2.2.2.2[14]? = some (22, 3, .invokevirtual 337, [0, 235, 1, 9]) from rfl) zm235 (hq3.1.lt (a := 121) (by decide)) (hq3.1.T (a := 121) (p := (9, 45)) 43 rfl rfl) rfl (show aCr 1 121 [.int 40, .ref 121] 2 = some ([some (.ref 121), some (.int 40)], []) from rfl)) hq6 ?_
      refine Q.run zm233 6 (i' := 21) (ls' := [some (.ref 121), some (.int x1), some (.int x2), some (.int (sI s 128 (jN x2))), some (.int (x2 + 1)), some (.int 0), none]) (st' := []) rfl ?_
      exact dt233_21 (by omega) hrc _ hq6.1  h
    · rw [if_neg hc2] at h
      refine Q.map (A.bT (gI_of zm233 (e := (10, 3, .if_icmp .ne 69, [44])) rfl) (decide_eq_true hc2)) ?_
      refine Q.run zm233 2 (i' := 46) (ls' := [some (.ref 121), some (.int x1), some (.int x2), some (.int (sI s 128 (jN x2))), none, none, none]) (st' := [.int 9, .int (sI s 128 (jN x2))]) rfl ?_
      by_cases hc9 : (sI s 128 (jN x2)) = 9
      · rw [if_pos hc9] at h
        refine Q.map (A.bF (gI_of zm233 (e := (82, 3, .if_icmp .ne 24, [60])) rfl) (fun q => of_decide_eq_true q hc9)) ?_
        refine Q.run zm233 6 (i' := 53) (ls' := [some (.ref 121), some (.int x1), some (.int x2), some (.int (sI s 128 (jN x2))), none, none, none]) (st' := [.int 7, .int (x2 + 1), .int x1, .ref 121]) rfl ?_
        obtain ⟨r13, s12, hc11, h⟩ := bv_so h
        have hq10 : Q 2 sio tt cc d 236 0 [some (.ref 121), some (.int x1), some (.int (x2 + 1)), some (.int 7), none, none] [] s (.inl (some (.int r13)), s12) := dt236 (m := m) (by omega) hrc hl  hc11
        refine Q.callI (gC_vi zm233 (show zM233.2.2.2.2.2[53]? = some (92, 3, .invokevirtual 356, [0, 236, 3, 9]) from rfl) zm236 (hl.lt (a := 121) (by decide)) (hl.T (a := 121) (p := (9, 45)) 43 rfl rfl) rfl (show aCr 3 121 [.int 7, .int (x2 + 1), .int x1, .ref 121] 6 = some ([some (.ref 121), some (.int x1), some (.int (x2 + 1)), some (.int 7), none, none], []) from rfl)) hq10 ?_
        refine Q.run zm233 3 (i' := 57) (ls' := [some (.ref 121), some (.int x1), some (.int x2), some (.int (sI s 128 (jN x2))), some (.int r13), none, none]) (st' := [.int 37, .ref 121]) rfl ?_
        obtain ⟨s16, hc15, h⟩ := bu_so h
        have hq14 : Q 2 sio tt cc d 235 0 [some (.ref 121), some (.int 37)] [] s12 (.inl none, s16) := dt235 (by omega) hq10.1  hc15
        refine Q.callV (gC_vi zm233 (show zM233.2.2.2.2.2[57]? = some (100, 3, .invokevirtual 337, [0, 235, 1, 9]) from rfl) zm235 (hq10.1.lt (a := 121) (by decide)) (hq10.1.T (a := 121) (p := (9, 45)) 43 rfl rfl) rfl (show aCr 1 121 [.int 37, .ref 121] 2 = some ([some (.ref 121), some (.int 37)], []) from rfl)) hq14 ?_
        refine Q.run zm233 1 (i' := 59) (ls' := [some (.ref 121), some (.int x1), some (.int x2), some (.int (sI s 128 (jN x2))), some (.int r13), none, none]) (st' := [.int r13]) rfl ?_
        cases h
        exact Q.ret (A.ri zm233 (show zM233.2.2.2.2.2[59]? = some (105, 1, .ireturn, []) from rfl) rfl rfl) hq14.1
      · rw [if_neg hc9] at h
        refine Q.map (A.bT (gI_of zm233 (e := (82, 3, .if_icmp .ne 24, [60])) rfl) (decide_eq_true hc9)) ?_
        refine Q.run zm233 2 (i' := 62) (ls' := [some (.ref 121), some (.int x1), some (.int x2), some (.int (sI s 128 (jN x2))), none, none, none]) (st' := [.int 10, .int (sI s 128 (jN x2))]) rfl ?_
        by_cases hc17 : (sI s 128 (jN x2)) = 10
        · rw [if_pos hc17] at h
          refine Q.map (A.bF (gI_of zm233 (e := (109, 3, .if_icmp .ne 20, [74])) rfl) (fun q => of_decide_eq_true q hc17)) ?_
          refine Q.run zm233 2 (i' := 65) (ls' := [some (.ref 121), some (.int x1), some (.int x2), some (.int (sI s 128 (jN x2))), none, none, none]) (st' := [.int 45, .ref 121]) rfl ?_
          obtain ⟨s20, hc19, h⟩ := bu_so h
          have hq18 : Q 2 sio tt cc d 235 0 [some (.ref 121), some (.int 45)] [] s (.inl none, s20) := dt235 (by omega) hl  hc19
          refine Q.callV (gC_vi zm233 (show zM233.2.2.2.2.2[65]? = some (115, 3, .invokevirtual 337, [0, 235, 1, 9]) from rfl) zm235 (hl.lt (a := 121) (by decide)) (hl.T (a := 121) (p := (9, 45)) 43 rfl rfl) rfl (show aCr 1 121 [.int 45, .ref 121] 2 = some ([some (.ref 121), some (.int 45)], []) from rfl)) hq18 ?_
          refine Q.run zm233 6 (i' := 72) (ls' := [some (.ref 121), some (.int x1), some (.int x2), some (.int (sI s 128 (jN x2))), none, none, none]) (st' := [.int 6, .int (x2 + 1), .int x1, .ref 121]) rfl ?_
          obtain ⟨r24, s23, hc22, h⟩ := bv_so h
          have hq21 : Q 2 sio tt cc d 236 0 [some (.ref 121), some (.int x1), some (.int (x2 + 1)), some (.int 6), none, none] [] s20 (.inl (some (.int r24)), s23) := dt236 (m := m) (by omega) hrc hq18.1  hc22
          refine Q.callI (gC_vi zm233 (show zM233.2.2.2.2.2[72]? = some (125, 3, .invokevirtual 356, [0, 236, 3, 9]) from rfl) zm236 (hq18.1.lt (a := 121) (by decide)) (hq18.1.T (a := 121) (p := (9, 45)) 43 rfl rfl) rfl (show aCr 3 121 [.int 6, .int (x2 + 1), .int x1, .ref 121] 6 = some ([some (.ref 121), some (.int x1), some (.int (x2 + 1)), some (.int 6), none, none], []) from rfl)) hq21 ?_
          cases h
          exact Q.ret (A.ri zm233 (show zM233.2.2.2.2.2[73]? = some (128, 1, .ireturn, []) from rfl) rfl rfl) hq21.1
        · rw [if_neg hc17] at h
          refine Q.map (A.bT (gI_of zm233 (e := (109, 3, .if_icmp .ne 20, [74])) rfl) (decide_eq_true hc17)) ?_
          refine Q.run zm233 2 (i' := 76) (ls' := [some (.ref 121), some (.int x1), some (.int x2), some (.int (sI s 128 (jN x2))), none, none, none]) (st' := [.int 11, .int (sI s 128 (jN x2))]) rfl ?_
          by_cases hc25 : (sI s 128 (jN x2)) < 11
          · rw [if_pos hc25] at h
            refine Q.map (A.bT (gI_of zm233 (e := (132, 3, .if_icmp .lt 65, [112])) rfl) (decide_eq_true hc25)) ?_
            refine Q.run zm233 2 (i' := 114) (ls' := [some (.ref 121), some (.int x1), some (.int x2), some (.int (sI s 128 (jN x2))), none, none, none]) (st' := [.int 2, .int (sI s 128 (jN x2))]) rfl ?_
            by_cases hc26 : (sI s 128 (jN x2)) = 2
            · rw [if_pos hc26] at h
              refine Q.map (A.bF (gI_of zm233 (e := (199, 3, .if_icmp .ne 44, [135])) rfl) (fun q => of_decide_eq_true q hc26)) ?_
              refine Q.run zm233 2 (i' := 117) (ls' := [some (.ref 121), some (.int x1), some (.int x2), some (.int (sI s 128 (jN x2))), some (.int 0), none, none]) (st' := []) rfl ?_
              exact dt233_117 (by omega) hrc _ hl  h
            · rw [if_neg hc26] at h
              refine Q.map (A.bT (gI_of zm233 (e := (199, 3, .if_icmp .ne 44, [135])) rfl) (decide_eq_true hc26)) ?_
              refine Q.run zm233 2 (i' := 137) (ls' := [some (.ref 121), some (.int x1), some (.int x2), some (.int (sI s 128 (jN x2))), none, none, none]) (st' := [.int 3, .int (sI s 128 (jN x2))]) rfl ?_
              by_cases hc27 : (sI s 128 (jN x2)) = 3
              · rw [if_pos hc27] at h
                refine Q.map (A.bF (gI_of zm233 (e := (245, 3, .if_icmp .ne 72, [173])) rfl) (fun q => of_decide_eq_true q hc27)) ?_
                refine Q.run zm233 1 (i' := 139) (ls' := [some (.ref 121), some (.int x1), some (.int x2), some (.int (sI s 128 (jN x2))), none, none, none]) (st' := [.ref 121]) rfl ?_
                refine Q.map (A.gf (gI_of zm233 (e := (249, 3, .getfield 53, [9, 17])) rfl) (hl.lt (a := 121) (by decide)) (hl.T (a := 121) (p := (9, 45)) 43 rfl rfl) (by decide) (hl.R 37 rfl)) ?_
                refine Q.run zm233 1 (i' := 141) (ls' := [some (.ref 121), some (.int x1), some (.int x2), some (.int (sI s 128 (jN x2))), none, none, none]) (st' := [.int x2, .ref 136]) rfl ?_
                obtain ⟨hc28, h⟩ := ite_so h
                refine Q.map (A.ia (gI_of zm233 (e := (253, 1, .iaload, [])) rfl) (hl.lt (a := 136) (by decide)) (hl.T (a := 136) (p := (100, 1152)) 58 rfl rfl) hc28) ?_
                refine Q.run zm233 1 (i' := 143) (ls' := [some (.ref 121), some (.int x1), some (.int x2), some (.int (sI s 128 (jN x2))), none, none, none]) (st' := [.int 1, .int (sI s 136 (jN x2))]) rfl ?_
                by_cases hc29 : (sI s 136 (jN x2)) = 1
                · rw [if_pos hc29] at h
                  refine Q.map (A.bF (gI_of zm233 (e := (255, 3, .if_icmp .ne 9, [146])) rfl) (fun q => of_decide_eq_true q hc29)) ?_
                  refine Q.run zm233 2 (i' := 147) (ls' := [some (.ref 121), some (.int x1), some (.int x2), some (.int (sI s 128 (jN x2))), none, none, none]) (st' := [.long 1414681925]) rfl ?_
                  exact dt233_147 (by omega) hrc hl  h
                · rw [if_neg hc29] at h
                  refine Q.map (A.bT (gI_of zm233 (e := (255, 3, .if_icmp .ne 9, [146])) rfl) (decide_eq_true hc29)) ?_
                  refine Q.run zm233 1 (i' := 147) (ls' := [some (.ref 121), some (.int x1), some (.int x2), some (.int (sI s 128 (jN x2))), none, none, none]) (st' := [.long 301743231813]) rfl ?_
                  exact dt233_147 (by omega) hrc hl  h
              · rw [if_neg hc27] at h
                refine Q.map (A.bT (gI_of zm233 (e := (245, 3, .if_icmp .ne 72, [173])) rfl) (decide_eq_true hc27)) ?_
                refine Q.run zm233 2 (i' := 175) (ls' := [some (.ref 121), some (.int x1), some (.int x2), some (.int (sI s 128 (jN x2))), none, none, none]) (st' := [.int 4, .int (sI s 128 (jN x2))]) rfl ?_
                by_cases hc30 : (sI s 128 (jN x2)) = 4
                · rw [if_pos hc30] at h
                  refine Q.map (A.bT (gI_of zm233 (e := (319, 3, .if_icmp .eq 8, [179])) rfl) (decide_eq_true hc30)) ?_
                  exact dt233_179 (by omega) hrc hl  h
                · rw [if_neg hc30] at h
                  refine Q.map (A.bF (gI_of zm233 (e := (319, 3, .if_icmp .eq 8, [179])) rfl) (fun q => hc30 (of_decide_eq_true q))) ?_
                  refine Q.run zm233 2 (i' := 178) (ls' := [some (.ref 121), some (.int x1), some (.int x2), some (.int (sI s 128 (jN x2))), none, none, none]) (st' := [.int 5, .int (sI s 128 (jN x2))]) rfl ?_
                  by_cases hc31 : (sI s 128 (jN x2)) = 5
                  · rw [if_pos hc31] at h
                    refine Q.map (A.bF (gI_of zm233 (e := (324, 3, .if_icmp .ne 75, [224])) rfl) (fun q => of_decide_eq_true q hc31)) ?_
                    exact dt233_179 (by omega) hrc hl  h
                  · rw [if_neg hc31] at h
                    refine Q.map (A.bT (gI_of zm233 (e := (324, 3, .if_icmp .ne 75, [224])) rfl) (decide_eq_true hc31)) ?_
                    refine Q.run zm233 2 (i' := 226) (ls' := [some (.ref 121), some (.int x1), some (.int x2), some (.int (sI s 128 (jN x2))), none, none, none]) (st' := [.int 8, .int (sI s 128 (jN x2))]) rfl ?_
                    by_cases hc32 : (sI s 128 (jN x2)) = 8
                    · rw [if_pos hc32] at h
                      refine Q.map (A.bT (gI_of zm233 (e := (402, 3, .if_icmp .eq 9, [231])) rfl) (decide_eq_true hc32)) ?_
                      exact dt233_231 (by omega) hrc hl  h
                    · rw [if_neg hc32] at h
                      refine Q.map (A.bF (gI_of zm233 (e := (402, 3, .if_icmp .eq 9, [231])) rfl) (fun q => hc32 (of_decide_eq_true q))) ?_
                      refine Q.run zm233 3 (i' := 230) (ls' := [some (.ref 121), some (.int x1), some (.int x2), some (.int (sI s 128 (jN x2))), none, none, none]) (st' := [.int x2, .int x1, .ref 121]) rfl ?_
                      obtain ⟨s35, hc34, h⟩ := bu_so h
                      have hq33 : Q 2 sio tt cc d 234 0 [some (.ref 121), some (.int x1), some (.int x2), none] [] s (.inl none, s35) := dt234 (by omega) hl  hc34
                      refine Q.callV (gC_vi zm233 (show zM233.2.2.2.2.2[230]? = some (408, 3, .invokevirtual 353, [0, 234, 2, 9]) from rfl) zm234 (hl.lt (a := 121) (by decide)) (hl.T (a := 121) (p := (9, 45)) 43 rfl rfl) rfl (show aCr 2 121 [.int x2, .int x1, .ref 121] 4 = some ([some (.ref 121), some (.int x1), some (.int x2), none], []) from rfl)) hq33 ?_
                      exact dt233_231 (by omega) hrc hq33.1  h
          · rw [if_neg hc25] at h
            refine Q.map (A.bF (gI_of zm233 (e := (132, 3, .if_icmp .lt 65, [112])) rfl) (fun q => hc25 (of_decide_eq_true q))) ?_
            refine Q.run zm233 1 (i' := 78) (ls' := [some (.ref 121), some (.int x1), some (.int x2), some (.int (sI s 128 (jN x2))), none, none, none]) (st' := [.int (sI s 128 (jN x2))]) rfl ?_
            obtain ⟨r38, hc37, h⟩ := bu_so h
            have hq36 : Q 2 sio tt cc d 191 0 [some (.int (sI s 128 (jN x2)))] [] s (.inl (some (.int r38)), s) := dt191 (by omega) hl  hc37
            refine Q.callI (gC_st zm233 (show zM233.2.2.2.2.2[78]? = some (136, 3, .invokestatic 150, [0, 191, 1]) from rfl) zm191 (show aC 1 [.int (sI s 128 (jN x2))] 1 = some ([some (.int (sI s 128 (jN x2)))], []) from rfl)) hq36 ?_
            refine Q.run zm233 7 (i' := 86) (ls' := [some (.ref 121), some (.int x1), some (.int x2), some (.int (sI s 128 (jN x2))), some (.int r38), none, none]) (st' := [.int r38, .int (x2 + 1), .int x1, .ref 121]) rfl ?_
            obtain ⟨r42, s41, hc40, h⟩ := bv_so h
            have hq39 : Q 2 sio tt cc d 236 0 [some (.ref 121), some (.int x1), some (.int (x2 + 1)), some (.int r38), none, none] [] s (.inl (some (.int r42)), s41) := dt236 (m := m) (by omega) hrc hl  hc40
            refine Q.callI (gC_vi zm233 (show zM233.2.2.2.2.2[86]? = some (148, 3, .invokevirtual 356, [0, 236, 3, 9]) from rfl) zm236 (hl.lt (a := 121) (by decide)) (hl.T (a := 121) (p := (9, 45)) 43 rfl rfl) rfl (show aCr 3 121 [.int r38, .int (x2 + 1), .int x1, .ref 121] 6 = some ([some (.ref 121), some (.int x1), some (.int (x2 + 1)), some (.int r38), none, none], []) from rfl)) hq39 ?_
            refine Q.run zm233 3 (i' := 90) (ls' := [some (.ref 121), some (.int x1), some (.int x2), some (.int (sI s 128 (jN x2))), some (.int r38), some (.int r42), none]) (st' := [.int (sI s 128 (jN x2)), .ref 121]) rfl ?_
            obtain ⟨r45, hc44, h⟩ := bu_so h
            have hq43 : Q 2 sio tt cc d 237 0 [some (.int (sI s 128 (jN x2)))] [] s41 (.inl (some (.int r45)), s41) := dt237 (by omega) hq39.1  hc44
            refine Q.callI (gC_st zm233 (show zM233.2.2.2.2.2[90]? = some (155, 3, .invokestatic 359, [0, 237, 1]) from rfl) zm237 (show aC 1 [.int (sI s 128 (jN x2)), .ref 121] 1 = some ([some (.int (sI s 128 (jN x2)))], [.ref 121]) from rfl)) hq43 ?_
            obtain ⟨s48, hc47, h⟩ := bu_so h
            have hq46 : Q 2 sio tt cc d 235 0 [some (.ref 121), some (.int r45)] [] s41 (.inl none, s48) := dt235 (by omega) hq39.1  hc47
            refine Q.callV (gC_vi zm233 (show zM233.2.2.2.2.2[91]? = some (158, 3, .invokevirtual 337, [0, 235, 1, 9]) from rfl) zm235 (hq39.1.lt (a := 121) (by decide)) (hq39.1.T (a := 121) (p := (9, 45)) 43 rfl rfl) rfl (show aCr 1 121 [.int r45, .ref 121] 2 = some ([some (.ref 121), some (.int r45)], []) from rfl)) hq46 ?_
            refine Q.run zm233 2 (i' := 94) (ls' := [some (.ref 121), some (.int x1), some (.int x2), some (.int (sI s 128 (jN x2))), some (.int r38), some (.int r42), none]) (st' := [.int 18, .int (sI s 128 (jN x2))]) rfl ?_
            by_cases hc49 : (sI s 128 (jN x2)) = 18
            · rw [if_pos hc49] at h
              refine Q.map (A.bF (gI_of zm233 (e := (164, 3, .if_icmp .ne 9, [98])) rfl) (fun q => of_decide_eq_true q hc49)) ?_
              refine Q.run zm233 2 (i' := 97) (ls' := [some (.ref 121), some (.int x1), some (.int x2), some (.int (sI s 128 (jN x2))), some (.int r38), some (.int r42), none]) (st' := [.int 62, .ref 121]) rfl ?_
              obtain ⟨s52, hc51, h⟩ := bu_so h
              have hq50 : Q 2 sio tt cc d 235 0 [some (.ref 121), some (.int 62)] [] s48 (.inl none, s52) := dt235 (by omega) hq46.1  hc51
              refine Q.callV (gC_vi zm233 (show zM233.2.2.2.2.2[97]? = some (170, 3, .invokevirtual 337, [0, 235, 1, 9]) from rfl) zm235 (hq46.1.lt (a := 121) (by decide)) (hq46.1.T (a := 121) (p := (9, 45)) 43 rfl rfl) rfl (show aCr 1 121 [.int 62, .ref 121] 2 = some ([some (.ref 121), some (.int 62)], []) from rfl)) hq50 ?_
              exact dt233_98 (by omega) hrc hq50.1  h
            · rw [if_neg hc49] at h
              refine Q.map (A.bT (gI_of zm233 (e := (164, 3, .if_icmp .ne 9, [98])) rfl) (decide_eq_true hc49)) ?_
              exact dt233_98 (by omega) hrc hq46.1  h
