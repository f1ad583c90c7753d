/-! 203 FormulaTreesModel.readError()V -/
set_option maxRecDepth 100000 in
theorem zm203 : zP[203]? = some zM203 := rfl
def dm203_90 (x2 : Int32) (s : aS) : Option (aS) :=
  if (sI s 121 27) = 0 then
    bv (dm187 2 s) fun r5 s4 =>
    if aB (1024 + r5) 1152 then
      nx (wI s4 136 (jN (1024 + r5)) x2) fun s7 =>
      bu (dm194 r5 s7) fun s12 =>
      some s12
    else none
  else
    some s
set_option maxRecDepth 100000 in
theorem dt203_90 {sio : Bool} {tt : Nat} {cc : Nat → Nat → Int32} {d : Nat} (hd : 1 ≤ d) {x2 : Int32} {x1 : Int32} {g3 : Option Value} {g4 : Option Value} {g5 : Option Value} {g6 : Option Value} {g7 : Option Value} {s : aS} (hl : Ly tt cc s) {o : aS} (h : dm203_90  x2 s = some o) : Q 2 sio tt cc d 203 90 [some (.ref 121), some (.int x1), some (.int x2), g3, g4, g5, g6, g7] [] s (.inl none, o) := by
  unfold dm203_90 at h
  obtain ⟨d, rfl⟩ : ∃ e, d = e + 1 := ⟨d - 1, by omega⟩
  refine Q.run zm203 1 (i' := 91) (ls' := [some (.ref 121), some (.int x1), some (.int x2), g3, g4, g5, g6, g7]) (st' := [.ref 121]) rfl ?_
  refine Q.map (A.gf (gI_of zm203 (e := (180, 3, .getfield 134, [9, 27])) rfl) (hl.lt (a := 121) (by decide)) (hl.T (a := 121) (p := (9, 45)) 43 rfl rfl) (by decide) rfl) ?_
  by_cases hc1 : (sI s 121 27) = 0
  · rw [if_pos hc1] at h
    refine Q.map (A.zT (gI_of zm203 (e := (183, 3, .ifCond .eq 4, [94])) rfl) (decide_eq_true hc1)) ?_
    refine Q.run zm203 2 (i' := 96) (ls' := [some (.ref 121), some (.int x1), some (.int x2), g3, g4, g5, g6, g7]) (st' := [.int 2, .ref 121]) rfl ?_
    obtain ⟨r5, s4, hc3, h⟩ := bv_so h
    have hq2 : Q 2 sio tt cc d 187 0 [some (.ref 121), some (.int 2), none, none] [] s (.inl (some (.int r5)), s4) := dt187 (by omega) hl  hc3
    refine Q.callI (gC_vi zm203 (show zM203.2.2.2.2.2[96]? = some (189, 3, .invokevirtual 167, [0, 187, 1, 9]) from rfl) zm187 (hl.lt (a := 121) (by decide)) (hl.T (a := 121) (p := (9, 45)) 43 rfl rfl) rfl (show aCr 1 121 [.int 2, .ref 121] 4 = some ([some (.ref 121), some (.int 2), none, none], []) from rfl)) hq2 ?_
    refine Q.run zm203 2 (i' := 99) (ls' := [some (.ref 121), some (.int x1), some (.int x2), some (.int r5), g4, g5, g6, g7]) (st' := [.ref 121]) rfl ?_
    refine Q.map (A.gf (gI_of zm203 (e := (194, 3, .getfield 53, [9, 17])) rfl) (hq2.1.lt (a := 121) (by decide)) (hq2.1.T (a := 121) (p := (9, 45)) 43 rfl rfl) (by decide) (hq2.1.R 37 rfl)) ?_
    refine Q.run zm203 4 (i' := 104) (ls' := [some (.ref 121), some (.int x1), some (.int x2), some (.int r5), g4, g5, g6, g7]) (st' := [.int x2, .int (1024 + r5), .ref 136]) rfl ?_
    obtain ⟨hc6, h⟩ := ite_so h
    obtain ⟨s7, hs8, h⟩ := nx_so h
    refine Q.is hs8 rfl (gI_of zm203 (e := (203, 1, .iastore, [])) rfl) (hq2.1.lt (a := 136) (by decide)) (by decide) (hq2.1.T (a := 136) (p := (100, 1152)) 58 rfl rfl) hc6 ?_
    have hl9 : Ly tt cc s7 := by rw [hs8]; exact hq2.1.wId (by decide)
    refine Q.run zm203 2 (i' := 107) (ls' := [some (.ref 121), some (.int x1), some (.int x2), some (.int r5), g4, g5, g6, g7]) (st' := [.int r5, .ref 121]) rfl ?_
    obtain ⟨s12, hc11, h⟩ := bu_so h
    have hq10 : Q 2 sio tt cc d 194 0 [some (.ref 121), some (.int r5)] [] s7 (.inl none, s12) := dt194 (by omega) hl9  hc11
    refine Q.callV (gC_vi zm203 (show zM203.2.2.2.2.2[107]? = some (206, 3, .invokevirtual 161, [0, 194, 1, 9]) from rfl) zm194 (hl9.lt (a := 121) (by decide)) (hl9.T (a := 121) (p := (9, 45)) 43 rfl rfl) rfl (show aCr 1 121 [.int r5, .ref 121] 2 = some ([some (.ref 121), some (.int r5)], []) from rfl)) hq10 ?_
    cases h
    exact Q.ret (A.rv zm203 (show zM203.2.2.2.2.2[108]? = some (209, 1, .return_, []) from rfl) rfl) hq10.1
  · rw [if_neg hc1] at h
    refine Q.map (A.zF (gI_of zm203 (e := (183, 3, .ifCond .eq 4, [94])) rfl) (fun q => hc1 (of_decide_eq_true q))) ?_
    cases h
    exact Q.ret (A.rv zm203 (show zM203.2.2.2.2.2[93]? = some (186, 1, .return_, []) from rfl) rfl) hl
def dm203_89 (k5 : Int32 → Int32 → aS → Option (aS)) (x1 : Int32) (x2 : Int32) (s : aS) : Option (aS) :=
  k5 x1 x2 s
set_option maxRecDepth 100000 in
theorem dt203_89 {sio : Bool} {tt : Nat} {cc : Nat → Nat → Int32} {d : Nat} (hd : 1 ≤ d) {k5 : Int32 → Int32 → aS → Option (aS)} (hk5 : ∀ {x1 : Int32} {x2 : Int32} {g3 : Option Value} {g4 : Option Value} {g5 : Option Value} {g6 : Option Value} {g7 : Option Value} {s : aS}, Ly tt cc s → ∀ {o : aS}, k5 x1 x2 s = some o → Q 2 sio tt cc d 203 5 [some (.ref 121), some (.int x1), some (.int x2), g3, g4, g5, g6, g7] [] s (.inl none, o)) {x1 : Int32} {x2 : Int32} {x3 : Int32} {x4 : Int32} {x5 : Int32} {g6 : Option Value} {g7 : Option Value} {s : aS} (hl : Ly tt cc s) {o : aS} (h : dm203_89 k5 x1 x2 s = some o) : Q 2 sio tt cc d 203 89 [some (.ref 121), some (.int x1), some (.int x2), some (.int x3), some (.int x4), some (.int x5), g6, g7] [] s (.inl none, o) := by
  unfold dm203_89 at h
  obtain ⟨d, rfl⟩ : ∃ e, d = e + 1 := ⟨d - 1, by omega⟩
  refine Q.run zm203 1 (i' := 5) (ls' := [some (.ref 121), some (.int x1), some (.int x2), some (.int x3), some (.int x4), some (.int x5), g6, g7]) (st' := []) rfl ?_
  exact hk5 hl  h
def dm203_73 (k5 : Int32 → Int32 → aS → Option (aS)) (k19 : Int32 → Int32 → Int32 → Int32 → Int32 → aS → Option (aS)) (x1 : Int32) (x3 : Int32) (x4 : Int32) (x5 : Int32) (y0 : Int32) (s : aS) : Option (aS) :=
  k19 x1 y0 x3 x4 (x5 + 1) s
set_option maxRecDepth 100000 in
theorem dt203_73 {sio : Bool} {tt : Nat} {cc : Nat → Nat → Int32} {d : Nat} (hd : 1 ≤ d) {k5 : Int32 → Int32 → aS → Option (aS)} (hk5 : ∀ {x1 : Int32} {x2 : Int32} {g3 : Option Value} {g4 : Option Value} {g5 : Option Value} {g6 : Option Value} {g7 : Option Value} {s : aS}, Ly tt cc s → ∀ {o : aS}, k5 x1 x2 s = some o → Q 2 sio tt cc d 203 5 [some (.ref 121), some (.int x1), some (.int x2), g3, g4, g5, g6, g7] [] s (.inl none, o)) {k19 : Int32 → Int32 → Int32 → Int32 → Int32 → aS → Option (aS)} (hk19 : ∀ {x1 : Int32} {x2 : Int32} {x3 : Int32} {x4 : Int32} {x5 : Int32} {g6 : Option Value} {g7 : Option Value} {s : aS}, Ly tt cc s → ∀ {o : aS}, k19 x1 x2 x3 x4 x5 s = some o → Q 2 sio tt cc d 203 19 [some (.ref 121), some (.int x1), some (.int x2), some (.int x3), some (.int x4), some (.int x5), g6, g7] [] s (.inl none, o)) {x1 : Int32} {x3 : Int32} {x4 : Int32} {x5 : Int32} {y0 : Int32} {x2 : Int32} {x6 : Int32} {x7 : Int32} {s : aS} (hl : Ly tt cc s) {o : aS} (h : dm203_73 k5 k19 x1 x3 x4 x5 y0 s = some o) : Q 2 sio tt cc d 203 73 [some (.ref 121), some (.int x1), some (.int x2), some (.int x3), some (.int x4), some (.int x5), some (.int x6), some (.int x7)] [.int y0] s (.inl none, o) := by
  unfold dm203_73 at h
  obtain ⟨d, rfl⟩ : ∃ e, d = e + 1 := ⟨d - 1, by omega⟩
  refine Q.run zm203 3 (i' := 19) (ls' := [some (.ref 121), some (.int x1), some (.int y0), some (.int x3), some (.int x4), some (.int (x5 + 1)), some (.int x6), some (.int x7)]) (st' := []) rfl ?_
  exact hk19 hl  h
def dm203_51 (k5 : Int32 → Int32 → aS → Option (aS)) (k19 : Int32 → Int32 → Int32 → Int32 → Int32 → aS → Option (aS)) (k33 : Int32 → Int32 → Int32 → Int32 → Int32 → Int32 → Int32 → aS → Option (aS)) (x1 : Int32) (x2 : Int32) (x3 : Int32) (x4 : Int32) (x5 : Int32) (x7 : Int32) (y0 : Int32) (s : aS) : Option (aS) :=
  k33 x1 x2 x3 x4 x5 y0 (x7 + 1) s
set_option maxRecDepth 100000 in
theorem dt203_51 {sio : Bool} {tt : Nat} {cc : Nat → Nat → Int32} {d : Nat} (hd : 1 ≤ d) {k5 : Int32 → Int32 → aS → Option (aS)} (hk5 : ∀ {x1 : Int32} {x2 : Int32} {g3 : Option Value} {g4 : Option Value} {g5 : Option Value} {g6 : Option Value} {g7 : Option Value} {s : aS}, Ly tt cc s → ∀ {o : aS}, k5 x1 x2 s = some o → Q 2 sio tt cc d 203 5 [some (.ref 121), some (.int x1), some (.int x2), g3, g4, g5, g6, g7] [] s (.inl none, o)) {k19 : Int32 → Int32 → Int32 → Int32 → Int32 → aS → Option (aS)} (hk19 : ∀ {x1 : Int32} {x2 : Int32} {x3 : Int32} {x4 : Int32} {x5 : Int32} {g6 : Option Value} {g7 : Option Value} {s : aS}, Ly tt cc s → ∀ {o : aS}, k19 x1 x2 x3 x4 x5 s = some o → Q 2 sio tt cc d 203 19 [some (.ref 121), some (.int x1), some (.int x2), some (.int x3), some (.int x4), some (.int x5), g6, g7] [] s (.inl none, o)) {k33 : Int32 → Int32 → Int32 → Int32 → Int32 → Int32 → Int32 → aS → Option (aS)} (hk33 : ∀ {x1 : Int32} {x2 : Int32} {x3 : Int32} {x4 : Int32} {x5 : Int32} {x6 : Int32} {x7 : Int32} {s : aS}, Ly tt cc s → ∀ {o : aS}, k33 x1 x2 x3 x4 x5 x6 x7 s = some o → Q 2 sio tt cc d 203 33 [some (.ref 121), some (.int x1), some (.int x2), some (.int x3), some (.int x4), some (.int x5), some (.int x6), some (.int x7)] [] s (.inl none, o)) {x1 : Int32} {x2 : Int32} {x3 : Int32} {x4 : Int32} {x5 : Int32} {x7 : Int32} {y0 : Int32} {x6 : Int32} {s : aS} (hl : Ly tt cc s) {o : aS} (h : dm203_51 k5 k19 k33 x1 x2 x3 x4 x5 x7 y0 s = some o) : Q 2 sio tt cc d 203 51 [some (.ref 121), some (.int x1), some (.int x2), some (.int x3), some (.int x4), some (.int x5), some (.int x6), some (.int x7)] [.int y0] s (.inl none, o) := by
  unfold dm203_51 at h
  obtain ⟨d, rfl⟩ : ∃ e, d = e + 1 := ⟨d - 1, by omega⟩
  refine Q.run zm203 3 (i' := 33) (ls' := [some (.ref 121), some (.int x1), some (.int x2), some (.int x3), some (.int x4), some (.int x5), some (.int y0), some (.int (x7 + 1))]) (st' := []) rfl ?_
  exact hk33 hl  h
def dm203_72 (k5 : Int32 → Int32 → aS → Option (aS)) (k19 : Int32 → Int32 → Int32 → Int32 → Int32 → aS → Option (aS)) (x1 : Int32) (x2 : Int32) (x3 : Int32) (x4 : Int32) (x5 : Int32) (s : aS) : Option (aS) :=
  dm203_73 k5 k19 x1 x3 x4 x5 x2 s
set_option maxRecDepth 100000 in
theorem dt203_72 {sio : Bool} {tt : Nat} {cc : Nat → Nat → Int32} {d : Nat} (hd : 1 ≤ d) {k5 : Int32 → Int32 → aS → Option (aS)} (hk5 : ∀ {x1 : Int32} {x2 : Int32} {g3 : Option Value} {g4 : Option Value} {g5 : Option Value} {g6 : Option Value} {g7 : Option Value} {s : aS}, Ly tt cc s → ∀ {o : aS}, k5 x1 x2 s = some o → Q 2 sio tt cc d 203 5 [some (.ref 121), some (.int x1), some (.int x2), g3, g4, g5, g6, g7] [] s (.inl none, o)) {k19 : Int32 → Int32 → Int32 → Int32 → Int32 → aS → Option (aS)} (hk19 : ∀ {x1 : Int32} {x2 : Int32} {x3 : Int32} {x4 : Int32} {x5 : Int32} {g6 : Option Value} {g7 : Option Value} {s : aS}, Ly tt cc s → ∀ {o : aS}, k19 x1 x2 x3 x4 x5 s = some o → Q 2 sio tt cc d 203 19 [some (.ref 121), some (.int x1), some (.int x2), some (.int x3), some (.int x4), some (.int x5), g6, g7] [] s (.inl none, o)) {x1 : Int32} {x2 : Int32} {x3 : Int32} {x4 : Int32} {x5 : Int32} {x6 : Int32} {x7 : Int32} {s : aS} (hl : Ly tt cc s) {o : aS} (h : dm203_72 k5 k19 x1 x2 x3 x4 x5 s = some o) : Q 2 sio tt cc d 203 72 [some (.ref 121), some (.int x1), some (.int x2), some (.int x3), some (.int x4), some (.int x5), some (.int x6), some (.int x7)] [] s (.inl none, o) := by
  unfold dm203_72 at h
  obtain ⟨d, rfl⟩ : ∃ e, d = e + 1 := ⟨d - 1, by omega⟩
  refine Q.run zm203 1 (i' := 73) (ls' := [some (.ref 121), some (.int x1), some (.int x2), some (.int x3), some (.int x4), some (.int x5), some (.int x6), some (.int x7)]) (st' := [.int x2]) rfl ?_
  exact dt203_73 hd hk5 hk19 hl  h
def dm203_50 (k5 : Int32 → Int32 → aS → Option (aS)) (k19 : Int32 → Int32 → Int32 → Int32 → Int32 → aS → Option (aS)) (k33 : Int32 → Int32 → Int32 → Int32 → Int32 → Int32 → Int32 → aS → Option (aS)) (x1 : Int32) (x2 : Int32) (x3 : Int32) (x4 : Int32) (x5 : Int32) (x7 : Int32) (s : aS) : Option (aS) :=
  dm203_51 k5 k19 k33 x1 x2 x3 x4 x5 x7 0 s
set_option maxRecDepth 100000 in
theorem dt203_50 {sio : Bool} {tt : Nat} {cc : Nat → Nat → Int32} {d : Nat} (hd : 1 ≤ d) {k5 : Int32 → Int32 → aS → Option (aS)} (hk5 : ∀ {x1 : Int32} {x2 : Int32} {g3 : Option Value} {g4 : Option Value} {g5 : Option Value} {g6 : Option Value} {g7 : Option Value} {s : aS}, Ly tt cc s → ∀ {o : aS}, k5 x1 x2 s = some o → Q 2 sio tt cc d 203 5 [some (.ref 121), some (.int x1), some (.int x2), g3, g4, g5, g6, g7] [] s (.inl none, o)) {k19 : Int32 → Int32 → Int32 → Int32 → Int32 → aS → Option (aS)} (hk19 : ∀ {x1 : Int32} {x2 : Int32} {x3 : Int32} {x4 : Int32} {x5 : Int32} {g6 : Option Value} {g7 : Option Value} {s : aS}, Ly tt cc s → ∀ {o : aS}, k19 x1 x2 x3 x4 x5 s = some o → Q 2 sio tt cc d 203 19 [some (.ref 121), some (.int x1), some (.int x2), some (.int x3), some (.int x4), some (.int x5), g6, g7] [] s (.inl none, o)) {k33 : Int32 → Int32 → Int32 → Int32 → Int32 → Int32 → Int32 → aS → Option (aS)} (hk33 : ∀ {x1 : Int32} {x2 : Int32} {x3 : Int32} {x4 : Int32} {x5 : Int32} {x6 : Int32} {x7 : Int32} {s : aS}, Ly tt cc s → ∀ {o : aS}, k33 x1 x2 x3 x4 x5 x6 x7 s = some o → Q 2 sio tt cc d 203 33 [some (.ref 121), some (.int x1), some (.int x2), some (.int x3), some (.int x4), some (.int x5), some (.int x6), some (.int x7)] [] s (.inl none, o)) {x1 : Int32} {x2 : Int32} {x3 : Int32} {x4 : Int32} {x5 : Int32} {x7 : Int32} {x6 : Int32} {s : aS} (hl : Ly tt cc s) {o : aS} (h : dm203_50 k5 k19 k33 x1 x2 x3 x4 x5 x7 s = some o) : Q 2 sio tt cc d 203 50 [some (.ref 121), some (.int x1), some (.int x2), some (.int x3), some (.int x4), some (.int x5), some (.int x6), some (.int x7)] [] s (.inl none, o) := by
  unfold dm203_50 at h
  obtain ⟨d, rfl⟩ : ∃ e, d = e + 1 := ⟨d - 1, by omega⟩
  refine Q.run zm203 1 (i' := 51) (ls' := [some (.ref 121), some (.int x1), some (.int x2), some (.int x3), some (.int x4), some (.int x5), some (.int x6), some (.int x7)]) (st' := [.int 0]) rfl ?_
  exact dt203_51 hd hk5 hk19 hk33 hl  h
def dm203_61 (k5 : Int32 → Int32 → aS → Option (aS)) (k19 : Int32 → Int32 → Int32 → Int32 → Int32 → aS → Option (aS)) (x1 : Int32) (x2 : Int32) (x3 : Int32) (x5 : Int32) (x6 : Int32) (y0 : Int32) (s : aS) : Option (aS) :=
  if x6 = 0 then
    dm203_72 k5 k19 x1 x2 x3 y0 x5 s
  else
    bu (dm204 x5 (x3 + 1)) fun r4 =>
    if r4 = 0 then
      dm203_73 k5 k19 x1 x3 y0 x5 x5 s
    else
      dm203_72 k5 k19 x1 x2 x3 y0 x5 s
set_option maxRecDepth 100000 in
theorem dt203_61 {sio : Bool} {tt : Nat} {cc : Nat → Nat → Int32} {d : Nat} (hd : 1 ≤ d) {k5 : Int32 → Int32 → aS → Option (aS)} (hk5 : ∀ {x1 : Int32} {x2 : Int32} {g3 : Option Value} {g4 : Option Value} {g5 : Option Value} {g6 : Option Value} {g7 : Option Value} {s : aS}, Ly tt cc s → ∀ {o : aS}, k5 x1 x2 s = some o → Q 2 sio tt cc d 203 5 [some (.ref 121), some (.int x1), some (.int x2), g3, g4, g5, g6, g7] [] s (.inl none, o)) {k19 : Int32 → Int32 → Int32 → Int32 → Int32 → aS → Option (aS)} (hk19 : ∀ {x1 : Int32} {x2 : Int32} {x3 : Int32} {x4 : Int32} {x5 : Int32} {g6 : Option Value} {g7 : Option Value} {s : aS}, Ly tt cc s → ∀ {o : aS}, k19 x1 x2 x3 x4 x5 s = some o → Q 2 sio tt cc d 203 19 [some (.ref 121), some (.int x1), some (.int x2), some (.int x3), some (.int x4), some (.int x5), g6, g7] [] s (.inl none, o)) {x1 : Int32} {x2 : Int32} {x3 : Int32} {x5 : Int32} {x6 : Int32} {y0 : Int32} {x4 : Int32} {x7 : Int32} {s : aS} (hl : Ly tt cc s) {o : aS} (h : dm203_61 k5 k19 x1 x2 x3 x5 x6 y0 s = some o) : Q 2 sio tt cc d 203 61 [some (.ref 121), some (.int x1), some (.int x2), some (.int x3), some (.int x4), some (.int x5), some (.int x6), some (.int x7)] [.int y0] s (.inl none, o) := by
  unfold dm203_61 at h
  obtain ⟨d, rfl⟩ : ∃ e, d = e + 1 := ⟨d - 1, by omega⟩
  refine Q.run zm203 2 (i' := 63) (ls' := [some (.ref 121), some (.int x1), some (.int x2), some (.int x3), some (.int y0), some (.int x5), some (.int x6), some (.int x7)]) (st' := [.int x6]) rfl ?_
  by_cases hc1 : x6 = 0
  · rw [if_pos hc1] at h
    refine Q.map (A.zT (gI_of zm203 (e := (123, 3, .ifCond .eq 19, [72])) rfl) (decide_eq_true hc1)) ?_
    exact dt203_72 hd hk5 hk19 hl  h
  · rw [if_neg hc1] at h
    refine Q.map (A.zF (gI_of zm203 (e := (123, 3, .ifCond .eq 19, [72])) rfl) (fun q => hc1 (of_decide_eq_true q))) ?_
    refine Q.run zm203 4 (i' := 68) (ls' := [some (.ref 121), some (.int x1), some (.int x2), some (.int x3), some (.int y0), some (.int x5), some (.int x6), some (.int x7)]) (st' := [.int (x3 + 1), .int x5]) rfl ?_
    obtain ⟨r4, hc3, h⟩ := bu_so h
    have hq2 : Q 2 sio tt cc d 204 0 [some (.int x5), some (.int (x3 + 1)), none, none, none] [] s (.inl (some (.int r4)), s) := dt204 (by omega) hl  hc3
    refine Q.callI (gC_st zm203 (show zM203.2.2.2.2.2[68]? = some (131, 3, .invokestatic 196, [0, 204, 2]) from rfl) zm204 (show aC 2 [.int (x3 + 1), .int x5] 5 = some ([some (.int x5), some (.int (x3 + 1)), none, none, none], []) from rfl)) hq2 ?_
    by_cases hc5 : r4 = 0
    · rw [if_pos hc5] at h
      refine Q.map (A.zF (gI_of zm203 (e := (134, 3, .ifCond .ne 8, [72])) rfl) (fun q => of_decide_eq_true q hc5)) ?_
      refine Q.run zm203 2 (i' := 73) (ls' := [some (.ref 121), some (.int x1), some (.int x2), some (.int x3), some (.int y0), some (.int x5), some (.int x6), some (.int x7)]) (st' := [.int x5]) rfl ?_
      exact dt203_73 hd hk5 hk19 hl  h
    · rw [if_neg hc5] at h
      refine Q.map (A.zT (gI_of zm203 (e := (134, 3, .ifCond .ne 8, [72])) rfl) (decide_eq_true hc5)) ?_
      exact dt203_72 hd hk5 hk19 hl  h
def dm203_58 (k5 : Int32 → Int32 → aS → Option (aS)) (k19 : Int32 → Int32 → Int32 → Int32 → Int32 → aS → Option (aS)) (x1 : Int32) (x2 : Int32) (x3 : Int32) (x5 : Int32) (x6 : Int32) (s : aS) : Option (aS) :=
  dm203_61 k5 k19 x1 x2 x3 x5 x6 1 s
set_option maxRecDepth 100000 in
theorem dt203_58 {sio : Bool} {tt : Nat} {cc : Nat → Nat → Int32} {d : Nat} (hd : 1 ≤ d) {k5 : Int32 → Int32 → aS → Option (aS)} (hk5 : ∀ {x1 : Int32} {x2 : Int32} {g3 : Option Value} {g4 : Option Value} {g5 : Option Value} {g6 : Option Value} {g7 : Option Value} {s : aS}, Ly tt cc s → ∀ {o : aS}, k5 x1 x2 s = some o → Q 2 sio tt cc d 203 5 [some (.ref 121), some (.int x1), some (.int x2), g3, g4, g5, g6, g7] [] s (.inl none, o)) {k19 : Int32 → Int32 → Int32 → Int32 → Int32 → aS → Option (aS)} (hk19 : ∀ {x1 : Int32} {x2 : Int32} {x3 : Int32} {x4 : Int32} {x5 : Int32} {g6 : Option Value} {g7 : Option Value} {s : aS}, Ly tt cc s → ∀ {o : aS}, k19 x1 x2 x3 x4 x5 s = some o → Q 2 sio tt cc d 203 19 [some (.ref 121), some (.int x1), some (.int x2), some (.int x3), some (.int x4), some (.int x5), g6, g7] [] s (.inl none, o)) {x1 : Int32} {x2 : Int32} {x3 : Int32} {x5 : Int32} {x6 : Int32} {x4 : Int32} {x7 : Int32} {s : aS} (hl : Ly tt cc s) {o : aS} (h : dm203_58 k5 k19 x1 x2 x3 x5 x6 s = some o) : Q 2 sio tt cc d 203 58 [some (.ref 121), some (.int x1), some (.int x2), some (.int x3), some (.int x4), some (.int x5), some (.int x6), some (.int x7)] [] s (.inl none, o) := by
  unfold dm203_58 at h
  obtain ⟨d, rfl⟩ : ∃ e, d = e + 1 := ⟨d - 1, by omega⟩
  refine Q.run zm203 2 (i' := 61) (ls' := [some (.ref 121), some (.int x1), some (.int x2), some (.int x3), some (.int x4), some (.int x5), some (.int x6), some (.int x7)]) (st' := [.int 1]) rfl ?_
  exact dt203_61 hd hk5 hk19 hl  h
def dm203_33 (k5 : Int32 → Int32 → aS → Option (aS)) (k19 : Int32 → Int32 → Int32 → Int32 → Int32 → aS → Option (aS)) : Nat → Int32 → Int32 → Int32 → Int32 → Int32 → Int32 → Int32 → aS → Option (aS)
  | 0, _, _, _, _, _, _, _, _ => none
  | n + 1, x1, x2, x3, x4, x5, x6, x7, s =>
    if x3 < x7 then
      if x4 = 0 then
        if x6 = 0 then
          dm203_61 k5 k19 x1 x2 x3 x5 x6 0 s
        else
          dm203_58 k5 k19 x1 x2 x3 x5 x6 s
      else
        dm203_58 k5 k19 x1 x2 x3 x5 x6 s
    else
      if x6 = 0 then
        dm203_50 k5 k19 (dm203_33 k5 k19 n) x1 x2 x3 x4 x5 x7 s
      else
        bu (dm204 x5 x7) fun r7 =>
        bu (dm176 (x1 + x7) s) fun r10 =>
        bu (dm178 r10) fun r13 =>
        if r7 = r13 then
          dm203_51 k5 k19 (dm203_33 k5 k19 n) x1 x2 x3 x4 x5 x7 1 s
        else
          dm203_50 k5 k19 (dm203_33 k5 k19 n) x1 x2 x3 x4 x5 x7 s
set_option maxRecDepth 100000 in
theorem dt203_33 {sio : Bool} {tt : Nat} {cc : Nat → Nat → Int32} {d : Nat} (hd : 1 ≤ d) {k5 : Int32 → Int32 → aS → Option (aS)} (hk5 : ∀ {x1 : Int32} {x2 : Int32} {g3 : Option Value} {g4 : Option Value} {g5 : Option Value} {g6 : Option Value} {g7 : Option Value} {s : aS}, Ly tt cc s → ∀ {o : aS}, k5 x1 x2 s = some o → Q 2 sio tt cc d 203 5 [some (.ref 121), some (.int x1), some (.int x2), g3, g4, g5, g6, g7] [] s (.inl none, o)) {k19 : Int32 → Int32 → Int32 → Int32 → Int32 → aS → Option (aS)} (hk19 : ∀ {x1 : Int32} {x2 : Int32} {x3 : Int32} {x4 : Int32} {x5 : Int32} {g6 : Option Value} {g7 : Option Value} {s : aS}, Ly tt cc s → ∀ {o : aS}, k19 x1 x2 x3 x4 x5 s = some o → Q 2 sio tt cc d 203 19 [some (.ref 121), some (.int x1), some (.int x2), some (.int x3), some (.int x4), some (.int x5), g6, g7] [] s (.inl none, o)) : ∀ (n : Nat) {x1 : Int32} {x2 : Int32} {x3 : Int32} {x4 : Int32} {x5 : Int32} {x6 : Int32} {x7 : Int32} {s : aS} (_ : Ly tt cc s) {o : aS} (_ : dm203_33 k5 k19 n x1 x2 x3 x4 x5 x6 x7 s = some o), Q 2 sio tt cc d 203 33 [some (.ref 121), some (.int x1), some (.int x2), some (.int x3), some (.int x4), some (.int x5), some (.int x6), some (.int x7)] [] s (.inl none, o) := by
  obtain ⟨d, rfl⟩ : ∃ e, d = e + 1 := ⟨d - 1, by omega⟩
  intro n
  induction n with
  | zero => intro x1 x2 x3 x4 x5 x6 x7 s hl o h; rw [dm203_33] at h; cases h
  | succ n ih =>
    intro x1 x2 x3 x4 x5 x6 x7 s hl o h
    rw [dm203_33] at h
    refine Q.run zm203 2 (i' := 35) (ls' := [some (.ref 121), some (.int x1), some (.int x2), some (.int x3), some (.int x4), some (.int x5), some (.int x6), some (.int x7)]) (st' := [.int x3, .int x7]) rfl ?_
    by_cases hc1 : x3 < x7
    · rw [if_pos hc1] at h
      refine Q.map (A.bT (gI_of zm203 (e := (62, 3, .if_icmp .gt 42, [54])) rfl) (decide_eq_true hc1)) ?_
      refine Q.run zm203 1 (i' := 55) (ls' := [some (.ref 121), some (.int x1), some (.int x2), some (.int x3), some (.int x4), some (.int x5), some (.int x6), some (.int x7)]) (st' := [.int x4]) rfl ?_
      by_cases hc2 : x4 = 0
      · rw [if_pos hc2] at h
        refine Q.map (A.zF (gI_of zm203 (e := (106, 3, .ifCond .ne 8, [58])) rfl) (fun q => of_decide_eq_true q hc2)) ?_
        refine Q.run zm203 1 (i' := 57) (ls' := [some (.ref 121), some (.int x1), some (.int x2), some (.int x3), some (.int x4), some (.int x5), some (.int x6), some (.int x7)]) (st' := [.int x6]) rfl ?_
        by_cases hc3 : x6 = 0
        · rw [if_pos hc3] at h
          refine Q.map (A.zT (gI_of zm203 (e := (111, 3, .ifCond .eq 7, [60])) rfl) (decide_eq_true hc3)) ?_
          refine Q.run zm203 1 (i' := 61) (ls' := [some (.ref 121), some (.int x1), some (.int x2), some (.int x3), some (.int x4), some (.int x5), some (.int x6), some (.int x7)]) (st' := [.int 0]) rfl ?_
          exact dt203_61 hd hk5 hk19 hl  h
        · rw [if_neg hc3] at h
          refine Q.map (A.zF (gI_of zm203 (e := (111, 3, .ifCond .eq 7, [60])) rfl) (fun q => hc3 (of_decide_eq_true q))) ?_
          exact dt203_58 hd hk5 hk19 hl  h
      · rw [if_neg hc2] at h
        refine Q.map (A.zT (gI_of zm203 (e := (106, 3, .ifCond .ne 8, [58])) rfl) (decide_eq_true hc2)) ?_
        exact dt203_58 hd hk5 hk19 hl  h
    · rw [if_neg hc1] at h
      refine Q.map (A.bF (gI_of zm203 (e := (62, 3, .if_icmp .gt 42, [54])) rfl) (fun q => hc1 (of_decide_eq_true q))) ?_
      refine Q.run zm203 1 (i' := 37) (ls' := [some (.ref 121), some (.int x1), some (.int x2), some (.int x3), some (.int x4), some (.int x5), some (.int x6), some (.int x7)]) (st' := [.int x6]) rfl ?_
      by_cases hc4 : x6 = 0
      · rw [if_pos hc4] at h
        refine Q.map (A.zT (gI_of zm203 (e := (67, 3, .ifCond .eq 28, [50])) rfl) (decide_eq_true hc4)) ?_
        exact dt203_50 hd hk5 hk19 ih hl  h
      · rw [if_neg hc4] at h
        refine Q.map (A.zF (gI_of zm203 (e := (67, 3, .ifCond .eq 28, [50])) rfl) (fun q => hc4 (of_decide_eq_true q))) ?_
        refine Q.run zm203 2 (i' := 40) (ls' := [some (.ref 121), some (.int x1), some (.int x2), some (.int x3), some (.int x4), some (.int x5), some (.int x6), some (.int x7)]) (st' := [.int x7, .int x5]) rfl ?_
        obtain ⟨r7, hc6, h⟩ := bu_so h
        have hq5 : Q 2 sio tt cc d 204 0 [some (.int x5), some (.int x7), none, none, none] [] s (.inl (some (.int r7)), s) := dt204 (by omega) hl  hc6
        refine Q.callI (gC_st zm203 (show zM203.2.2.2.2.2[40]? = some (74, 3, .invokestatic 196, [0, 204, 2]) from rfl) zm204 (show aC 2 [.int x7, .int x5] 5 = some ([some (.int x5), some (.int x7), none, none, none], []) from rfl)) hq5 ?_
        refine Q.run zm203 4 (i' := 45) (ls' := [some (.ref 121), some (.int x1), some (.int x2), some (.int x3), some (.int x4), some (.int x5), some (.int x6), some (.int x7)]) (st' := [.int (x1 + x7), .ref 121, .int r7]) rfl ?_
        obtain ⟨r10, hc9, h⟩ := bu_so h
        have hq8 : Q 2 sio tt cc d 176 0 [some (.ref 121), some (.int (x1 + x7))] [] s (.inl (some (.int r10)), s) := dt176 (by omega) hl  hc9
        refine Q.callI (gC_vi zm203 (show zM203.2.2.2.2.2[45]? = some (82, 3, .invokevirtual 113, [0, 176, 1, 9]) from rfl) zm176 (hl.lt (a := 121) (by decide)) (hl.T (a := 121) (p := (9, 45)) 43 rfl rfl) rfl (show aCr 1 121 [.int (x1 + x7), .ref 121, .int r7] 2 = some ([some (.ref 121), some (.int (x1 + x7))], [.int r7]) from rfl)) hq8 ?_
        obtain ⟨r13, hc12, h⟩ := bu_so h
        have hq11 : Q 2 sio tt cc d 178 0 [some (.int r10)] [] s (.inl (some (.int r13)), s) := dt178 (by omega) hl  hc12
        refine Q.callI (gC_st zm203 (show zM203.2.2.2.2.2[46]? = some (85, 3, .invokestatic 109, [0, 178, 1]) from rfl) zm178 (show aC 1 [.int r10, .int r7] 1 = some ([some (.int r10)], [.int r7]) from rfl)) hq11 ?_
        by_cases hc14 : r7 = r13
        · rw [if_pos hc14] at h
          refine Q.map (A.bF (gI_of zm203 (e := (88, 3, .if_icmp .ne 7, [50])) rfl) (fun q => of_decide_eq_true q hc14)) ?_
          refine Q.run zm203 2 (i' := 51) (ls' := [some (.ref 121), some (.int x1), some (.int x2), some (.int x3), some (.int x4), some (.int x5), some (.int x6), some (.int x7)]) (st' := [.int 1]) rfl ?_
          exact dt203_51 hd hk5 hk19 ih hl  h
        · rw [if_neg hc14] at h
          refine Q.map (A.bT (gI_of zm203 (e := (88, 3, .if_icmp .ne 7, [50])) rfl) (decide_eq_true hc14)) ?_
          exact dt203_50 hd hk5 hk19 ih hl  h
def dm203_30 (k5 : Int32 → Int32 → aS → Option (aS)) (k19 : Int32 → Int32 → Int32 → Int32 → Int32 → aS → Option (aS)) (x1 : Int32) (x2 : Int32) (x3 : Int32) (x4 : Int32) (x5 : Int32) (y0 : Int32) (s : aS) : Option (aS) :=
  dm203_33 k5 k19 5000 x1 x2 x3 x4 x5 y0 0 s
set_option maxRecDepth 100000 in
theorem dt203_30 {sio : Bool} {tt : Nat} {cc : Nat → Nat → Int32} {d : Nat} (hd : 1 ≤ d) {k5 : Int32 → Int32 → aS → Option (aS)} (hk5 : ∀ {x1 : Int32} {x2 : Int32} {g3 : Option Value} {g4 : Option Value} {g5 : Option Value} {g6 : Option Value} {g7 : Option Value} {s : aS}, Ly tt cc s → ∀ {o : aS}, k5 x1 x2 s = some o → Q 2 sio tt cc d 203 5 [some (.ref 121), some (.int x1), some (.int x2), g3, g4, g5, g6, g7] [] s (.inl none, o)) {k19 : Int32 → Int32 → Int32 → Int32 → Int32 → aS → Option (aS)} (hk19 : ∀ {x1 : Int32} {x2 : Int32} {x3 : Int32} {x4 : Int32} {x5 : Int32} {g6 : Option Value} {g7 : Option Value} {s : aS}, Ly tt cc s → ∀ {o : aS}, k19 x1 x2 x3 x4 x5 s = some o → Q 2 sio tt cc d 203 19 [some (.ref 121), some (.int x1), some (.int x2), some (.int x3), some (.int x4), some (.int x5), g6, g7] [] s (.inl none, o)) {x1 : Int32} {x2 : Int32} {x3 : Int32} {x4 : Int32} {x5 : Int32} {y0 : Int32} {g6 : Option Value} {g7 : Option Value} {s : aS} (hl : Ly tt cc s) {o : aS} (h : dm203_30 k5 k19 x1 x2 x3 x4 x5 y0 s = some o) : Q 2 sio tt cc d 203 30 [some (.ref 121), some (.int x1), some (.int x2), some (.int x3), some (.int x4), some (.int x5), g6, g7] [.int y0] s (.inl none, o) := by
  unfold dm203_30 at h
  obtain ⟨d, rfl⟩ : ∃ e, d = e + 1 := ⟨d - 1, by omega⟩
  refine Q.run zm203 3 (i' := 33) (ls' := [some (.ref 121), some (.int x1), some (.int x2), some (.int x3), some (.int x4), some (.int x5), some (.int y0), some (.int 0)]) (st' := []) rfl ?_
  exact dt203_33 hd hk5 hk19 _ hl  h
def dm203_19 (k5 : Int32 → Int32 → aS → Option (aS)) : Nat → Int32 → Int32 → Int32 → Int32 → Int32 → aS → Option (aS)
  | 0, _, _, _, _, _, _ => none
  | n + 1, x1, x2, x3, x4, x5, s =>
    if 8 ≤ x5 then
      if x4 = 0 then
        bu (dm186 (sI s 121 26) s) fun s5 =>
        dm203_89 k5 x1 x2 s5
      else
        nx (wI s 121 26 ((sI s 121 26) + 1)) fun s6 =>
        dm203_89 k5 x1 x2 s6
    else
      if (sI s 121 1) ≤ (sI s 121 26) then
        dm203_30 k5 (dm203_19 k5 n) x1 x2 x3 x4 x5 0 s
      else
        dm203_30 k5 (dm203_19 k5 n) x1 x2 x3 x4 x5 1 s
set_option maxRecDepth 100000 in
theorem dt203_19 {sio : Bool} {tt : Nat} {cc : Nat → Nat → Int32} {d : Nat} (hd : 1 ≤ d) {k5 : Int32 → Int32 → aS → Option (aS)} (hk5 : ∀ {x1 : Int32} {x2 : Int32} {g3 : Option Value} {g4 : Option Value} {g5 : Option Value} {g6 : Option Value} {g7 : Option Value} {s : aS}, Ly tt cc s → ∀ {o : aS}, k5 x1 x2 s = some o → Q 2 sio tt cc d 203 5 [some (.ref 121), some (.int x1), some (.int x2), g3, g4, g5, g6, g7] [] s (.inl none, o)) : ∀ (n : Nat) {x1 : Int32} {x2 : Int32} {x3 : Int32} {x4 : Int32} {x5 : Int32} {g6 : Option Value} {g7 : Option Value} {s : aS} (_ : Ly tt cc s) {o : aS} (_ : dm203_19 k5 n x1 x2 x3 x4 x5 s = some o), Q 2 sio tt cc d 203 19 [some (.ref 121), some (.int x1), some (.int x2), some (.int x3), some (.int x4), some (.int x5), g6, g7] [] s (.inl none, o) := by
  obtain ⟨d, rfl⟩ : ∃ e, d = e + 1 := ⟨d - 1, by omega⟩
  intro n
  induction n with
  | zero => intro x1 x2 x3 x4 x5 g6 g7 s hl o h; rw [dm203_19] at h; cases h
  | succ n ih =>
    intro x1 x2 x3 x4 x5 g6 g7 s hl o h
    rw [dm203_19] at h
    refine Q.run zm203 2 (i' := 21) (ls' := [some (.ref 121), some (.int x1), some (.int x2), some (.int x3), some (.int x4), some (.int x5), g6, g7]) (st' := [.int 8, .int x5]) rfl ?_
    by_cases hc1 : 8 ≤ x5
    · rw [if_pos hc1] at h
      refine Q.map (A.bT (gI_of zm203 (e := (35, 3, .if_icmp .ge 115, [76])) rfl) (decide_eq_true hc1)) ?_
      refine Q.run zm203 1 (i' := 77) (ls' := [some (.ref 121), some (.int x1), some (.int x2), some (.int x3), some (.int x4), some (.int x5), g6, g7]) (st' := [.int x4]) rfl ?_
      by_cases hc2 : x4 = 0
      · rw [if_pos hc2] at h
        refine Q.map (A.zT (gI_of zm203 (e := (152, 3, .ifCond .eq 16, [85])) rfl) (decide_eq_true hc2)) ?_
        refine Q.run zm203 2 (i' := 87) (ls' := [some (.ref 121), some (.int x1), some (.int x2), some (.int x3), some (.int x4), some (.int x5), g6, g7]) (st' := [.ref 121, .ref 121]) rfl ?_
        refine Q.map (A.gf (gI_of zm203 (e := (170, 3, .getfield 138, [9, 26])) rfl) (hl.lt (a := 121) (by decide)) (hl.T (a := 121) (p := (9, 45)) 43 rfl rfl) (by decide) rfl) ?_
        obtain ⟨s5, hc4, h⟩ := bu_so h
        have hq3 : Q 2 sio tt cc d 186 0 [some (.ref 121), some (.int (sI s 121 26))] [] s (.inl none, s5) := dt186 (by omega) hl  hc4
        refine Q.callV (gC_vi zm203 (show zM203.2.2.2.2.2[88]? = some (173, 3, .invokevirtual 164, [0, 186, 1, 9]) from rfl) zm186 (hl.lt (a := 121) (by decide)) (hl.T (a := 121) (p := (9, 45)) 43 rfl rfl) rfl (show aCr 1 121 [.int (sI s 121 26), .ref 121] 2 = some ([some (.ref 121), some (.int (sI s 121 26))], []) from rfl)) hq3 ?_
        exact dt203_89 hd hk5 hq3.1  h
      · rw [if_neg hc2] at h
        refine Q.map (A.zF (gI_of zm203 (e := (152, 3, .ifCond .eq 16, [85])) rfl) (fun q => hc2 (of_decide_eq_true q))) ?_
        refine Q.run zm203 2 (i' := 80) (ls' := [some (.ref 121), some (.int x1), some (.int x2), some (.int x3), some (.int x4), some (.int x5), g6, g7]) (st' := [.ref 121, .ref 121]) rfl ?_
        refine Q.map (A.gf (gI_of zm203 (e := (157, 3, .getfield 138, [9, 26])) rfl) (hl.lt (a := 121) (by decide)) (hl.T (a := 121) (p := (9, 45)) 43 rfl rfl) (by decide) rfl) ?_
        refine Q.run zm203 2 (i' := 83) (ls' := [some (.ref 121), some (.int x1), some (.int x2), some (.int x3), some (.int x4), some (.int x5), g6, g7]) (st' := [.int ((sI s 121 26) + 1), .ref 121]) rfl ?_
        obtain ⟨s6, hs7, h⟩ := nx_so h
        refine Q.pf hs7 rfl (gI_of zm203 (e := (162, 3, .putfield 138, [9, 26, 0])) rfl) (hl.lt (a := 121) (by decide)) (by decide) (hl.T (a := 121) (p := (9, 45)) 43 rfl rfl) (by decide) rfl rfl ?_
        have hl8 : Ly tt cc s6 := by rw [hs7]; exact hl.wId (by decide)
        refine Q.run zm203 1 (i' := 89) (ls' := [some (.ref 121), some (.int x1), some (.int x2), some (.int x3), some (.int x4), some (.int x5), g6, g7]) (st' := []) rfl ?_
        exact dt203_89 hd hk5 hl8  h
    · rw [if_neg hc1] at h
      refine Q.map (A.bF (gI_of zm203 (e := (35, 3, .if_icmp .ge 115, [76])) rfl) (fun q => hc1 (of_decide_eq_true q))) ?_
      refine Q.run zm203 1 (i' := 23) (ls' := [some (.ref 121), some (.int x1), some (.int x2), some (.int x3), some (.int x4), some (.int x5), g6, g7]) (st' := [.ref 121]) rfl ?_
      refine Q.map (A.gf (gI_of zm203 (e := (39, 3, .getfield 138, [9, 26])) rfl) (hl.lt (a := 121) (by decide)) (hl.T (a := 121) (p := (9, 45)) 43 rfl rfl) (by decide) rfl) ?_
      refine Q.run zm203 1 (i' := 25) (ls' := [some (.ref 121), some (.int x1), some (.int x2), some (.int x3), some (.int x4), some (.int x5), g6, g7]) (st' := [.ref 121, .int (sI s 121 26)]) rfl ?_
      refine Q.map (A.gf (gI_of zm203 (e := (43, 3, .getfield 103, [9, 1])) rfl) (hl.lt (a := 121) (by decide)) (hl.T (a := 121) (p := (9, 45)) 43 rfl rfl) (by decide) rfl) ?_
      by_cases hc9 : (sI s 121 1) ≤ (sI s 121 26)
      · rw [if_pos hc9] at h
        refine Q.map (A.bT (gI_of zm203 (e := (46, 3, .if_icmp .ge 7, [29])) rfl) (decide_eq_true hc9)) ?_
        refine Q.run zm203 1 (i' := 30) (ls' := [some (.ref 121), some (.int x1), some (.int x2), some (.int x3), some (.int x4), some (.int x5), g6, g7]) (st' := [.int 0]) rfl ?_
        exact dt203_30 hd hk5 ih hl  h
      · rw [if_neg hc9] at h
        refine Q.map (A.bF (gI_of zm203 (e := (46, 3, .if_icmp .ge 7, [29])) rfl) (fun q => hc9 (of_decide_eq_true q))) ?_
        refine Q.run zm203 2 (i' := 30) (ls' := [some (.ref 121), some (.int x1), some (.int x2), some (.int x3), some (.int x4), some (.int x5), g6, g7]) (st' := [.int 1]) rfl ?_
        exact dt203_30 hd hk5 ih hl  h
def dm203_5 : Nat → Int32 → Int32 → aS → Option (aS)
  | 0, _, _, _ => none
  | n + 1, x1, x2, s =>
    if x2 = 0 then
      if (sI s 121 27) = 0 then
        dm203_19 (dm203_5 n) 5000 x1 x2 ((sI s 121 26) - x1) 0 1 s
      else
        dm203_90 x2 s
    else
      dm203_90 x2 s
set_option maxRecDepth 100000 in
theorem dt203_5 {sio : Bool} {tt : Nat} {cc : Nat → Nat → Int32} {d : Nat} (hd : 1 ≤ d) : ∀ (n : Nat) {x1 : Int32} {x2 : Int32} {g3 : Option Value} {g4 : Option Value} {g5 : Option Value} {g6 : Option Value} {g7 : Option Value} {s : aS} (_ : Ly tt cc s) {o : aS} (_ : dm203_5  n x1 x2 s = some o), Q 2 sio tt cc d 203 5 [some (.ref 121), some (.int x1), some (.int x2), g3, g4, g5, g6, g7] [] s (.inl none, o) := by
  obtain ⟨d, rfl⟩ : ∃ e, d = e + 1 := ⟨d - 1, by omega⟩
  intro n
  induction n with
  | zero => intro x1 x2 g3 g4 g5 g6 g7 s hl o h; rw [dm203_5] at h; cases h
  | succ n ih =>
    intro x1 x2 g3 g4 g5 g6 g7 s hl o h
    rw [dm203_5] at h
    refine Q.run zm203 1 (i' := 6) (ls' := [some (.ref 121), some (.int x1), some (.int x2), g3, g4, g5, g6, g7]) (st' := [.int x2]) rfl ?_
    by_cases hc1 : x2 = 0
    · rw [if_pos hc1] at h
      refine Q.map (A.zF (gI_of zm203 (e := (8, 3, .ifCond .ne 171, [90])) rfl) (fun q => of_decide_eq_true q hc1)) ?_
      refine Q.run zm203 1 (i' := 8) (ls' := [some (.ref 121), some (.int x1), some (.int x2), g3, g4, g5, g6, g7]) (st' := [.ref 121]) rfl ?_
      refine Q.map (A.gf (gI_of zm203 (e := (12, 3, .getfield 134, [9, 27])) rfl) (hl.lt (a := 121) (by decide)) (hl.T (a := 121) (p := (9, 45)) 43 rfl rfl) (by decide) rfl) ?_
      by_cases hc2 : (sI s 121 27) = 0
      · rw [if_pos hc2] at h
        refine Q.map (A.zF (gI_of zm203 (e := (15, 3, .ifCond .ne 164, [90])) rfl) (fun q => of_decide_eq_true q hc2)) ?_
        refine Q.run zm203 1 (i' := 11) (ls' := [some (.ref 121), some (.int x1), some (.int x2), g3, g4, g5, g6, g7]) (st' := [.ref 121]) rfl ?_
        refine Q.map (A.gf (gI_of zm203 (e := (19, 3, .getfield 138, [9, 26])) rfl) (hl.lt (a := 121) (by decide)) (hl.T (a := 121) (p := (9, 45)) 43 rfl rfl) (by decide) rfl) ?_
        refine Q.run zm203 7 (i' := 19) (ls' := [some (.ref 121), some (.int x1), some (.int x2), some (.int ((sI s 121 26) - x1)), some (.int 0), some (.int 1), g6, g7]) (st' := []) rfl ?_
        exact dt203_19 hd ih _ hl  h
      · rw [if_neg hc2] at h
        refine Q.map (A.zT (gI_of zm203 (e := (15, 3, .ifCond .ne 164, [90])) rfl) (decide_eq_true hc2)) ?_
        exact dt203_90 hd hl  h
    · rw [if_neg hc1] at h
      refine Q.map (A.zT (gI_of zm203 (e := (8, 3, .ifCond .ne 171, [90])) rfl) (decide_eq_true hc1)) ?_
      exact dt203_90 hd hl  h
def dm203 (s : aS) : Option (aS) :=
  dm203_5 5000 (sI s 121 26) 0 s
set_option maxRecDepth 100000 in
theorem dt203 {sio : Bool} {tt : Nat} {cc : Nat → Nat → Int32} {d : Nat} (hd : 1 ≤ d) {s : aS} (hl : Ly tt cc s) {o : aS} (h : dm203  s = some o) : Q 2 sio tt cc d 203 0 [some (.ref 121), none, none, none, none, none, none, none] [] s (.inl none, o) := by
  unfold dm203 at h
  obtain ⟨d, rfl⟩ : ∃ e, d = e + 1 := ⟨d - 1, by omega⟩
  refine Q.run zm203 1 (i' := 1) (ls' := [some (.ref 121), none, none, none, none, none, none, none]) (st' := [.ref 121]) rfl ?_
  refine Q.map (A.gf (gI_of zm203 (e := (1, 3, .getfield 138, [9, 26])) rfl) (hl.lt (a := 121) (by decide)) (hl.T (a := 121) (p := (9, 45)) 43 rfl rfl) (by decide) rfl) ?_
  refine Q.run zm203 3 (i' := 5) (ls' := [some (.ref 121), some (.int (sI s 121 26)), some (.int 0), none, none, none, none, none]) (st' := []) rfl ?_
  exact dt203_5 hd _ hl  h
/-! 208 FormulaTreesModel.readRow()V -/
set_option maxRecDepth 100000 in
theorem zm208 : zP[208]? = some zM208 := rfl
def dm208_35 : Nat → aS → Option (aS)
  | 0, _ => none
  | n + 1, s =>
    bu (dm176 (sI s 121 26) s) fun r3 =>
    bu (dm196 r3) fun r6 =>
    if r6 = 0 then
      some s
    else
      bu (dm176 (sI s 121 26) s) fun r10 =>
      if 1048576 < (((10 * (sI s 121 39)) + r10) - 48) then
        some s
      else
        bu (dm176 (sI s 121 26) s) fun r14 =>
        nx (wI s 121 39 (((10 * (sI s 121 39)) + r14) - 48)) fun s15 =>
        nx (wI s15 121 26 ((sI s15 121 26) + 1)) fun s18 =>
        dm208_35 n s18
set_option maxRecDepth 100000 in
theorem dt208_35 {sio : Bool} {tt : Nat} {cc : Nat → Nat → Int32} {d : Nat} (hd : 1 ≤ d) : ∀ (n : Nat) {s : aS} (_ : Ly tt cc s) {o : aS} (_ : dm208_35  n s = some o), Q 2 sio tt cc d 208 35 [some (.ref 121)] [] s (.inl none, o) := by
  obtain ⟨d, rfl⟩ : ∃ e, d = e + 1 := ⟨d - 1, by omega⟩
  intro n
  induction n with
  | zero => intro s hl o h; rw [dm208_35] at h; cases h
  | succ n ih =>
    intro s hl o h
    rw [dm208_35] at h
    refine Q.run zm208 2 (i' := 37) (ls' := [some (.ref 121)]) (st' := [.ref 121, .ref 121]) rfl ?_
    refine Q.map (A.gf (gI_of zm208 (e := (71, 3, .getfield 138, [9, 26])) rfl) (hl.lt (a := 121) (by decide)) (hl.T (a := 121) (p := (9, 45)) 43 rfl rfl) (by decide) rfl) ?_
    obtain ⟨r3, hc2, h⟩ := bu_so h
    have hq1 : Q 2 sio tt cc d 176 0 [some (.ref 121), some (.int (sI s 121 26))] [] s (.inl (some (.int r3)), s) := dt176 (by omega) hl  hc2
    refine Q.callI (gC_vi zm208 (show zM208.2.2.2.2.2[38]? = some (74, 3, .invokevirtual 113, [0, 176, 1, 9]) from rfl) zm176 (hl.lt (a := 121) (by decide)) (hl.T (a := 121) (p := (9, 45)) 43 rfl rfl) rfl (show aCr 1 121 [.int (sI s 121 26), .ref 121] 2 = some ([some (.ref 121), some (.int (sI s 121 26))], []) from rfl)) hq1 ?_
    obtain ⟨r6, hc5, h⟩ := bu_so h
    have hq4 : Q 2 sio tt cc d 196 0 [some (.int r3)] [] s (.inl (some (.int r6)), s) := dt196 (by omega) hl  hc5
    refine Q.callI (gC_st zm208 (show zM208.2.2.2.2.2[39]? = some (77, 3, .invokestatic 100, [0, 196, 1]) from rfl) zm196 (show aC 1 [.int r3] 1 = some ([some (.int r3)], []) from rfl)) hq4 ?_
    by_cases hc7 : r6 = 0
    · rw [if_pos hc7] at h
      refine Q.map (A.zT (gI_of zm208 (e := (80, 3, .ifCond .eq 63, [74])) rfl) (decide_eq_true hc7)) ?_
      cases h
      exact Q.ret (A.rv zm208 (show zM208.2.2.2.2.2[74]? = some (143, 1, .return_, []) from rfl) rfl) hl
    · rw [if_neg hc7] at h
      refine Q.map (A.zF (gI_of zm208 (e := (80, 3, .ifCond .eq 63, [74])) rfl) (fun q => hc7 (of_decide_eq_true q))) ?_
      refine Q.run zm208 2 (i' := 43) (ls' := [some (.ref 121)]) (st' := [.ref 121, .int 10]) rfl ?_
      refine Q.map (A.gf (gI_of zm208 (e := (86, 3, .getfield 206, [9, 39])) rfl) (hl.lt (a := 121) (by decide)) (hl.T (a := 121) (p := (9, 45)) 43 rfl rfl) (by decide) rfl) ?_
      refine Q.run zm208 3 (i' := 47) (ls' := [some (.ref 121)]) (st' := [.ref 121, .ref 121, .int (10 * (sI s 121 39))]) rfl ?_
      refine Q.map (A.gf (gI_of zm208 (e := (92, 3, .getfield 138, [9, 26])) rfl) (hl.lt (a := 121) (by decide)) (hl.T (a := 121) (p := (9, 45)) 43 rfl rfl) (by decide) rfl) ?_
      obtain ⟨r10, hc9, h⟩ := bu_so h
      have hq8 : Q 2 sio tt cc d 176 0 [some (.ref 121), some (.int (sI s 121 26))] [] s (.inl (some (.int r10)), s) := dt176 (by omega) hl  hc9
      refine Q.callI (gC_vi zm208 (show zM208.2.2.2.2.2[48]? = some (95, 3, .invokevirtual 113, [0, 176, 1, 9]) from rfl) zm176 (hl.lt (a := 121) (by decide)) (hl.T (a := 121) (p := (9, 45)) 43 rfl rfl) rfl (show aCr 1 121 [.int (sI s 121 26), .ref 121, .int (10 * (sI s 121 39))] 2 = some ([some (.ref 121), some (.int (sI s 121 26))], [.int (10 * (sI s 121 39))]) from rfl)) hq8 ?_
      refine Q.run zm208 4 (i' := 53) (ls' := [some (.ref 121)]) (st' := [.int 1048576, .int (((10 * (sI s 121 39)) + r10) - 48)]) rfl ?_
      by_cases hc11 : 1048576 < (((10 * (sI s 121 39)) + r10) - 48)
      · rw [if_pos hc11] at h
        refine Q.map (A.bT (gI_of zm208 (e := (104, 3, .if_icmp .gt 39, [74])) rfl) (decide_eq_true hc11)) ?_
        cases h
        exact Q.ret (A.rv zm208 (show zM208.2.2.2.2.2[74]? = some (143, 1, .return_, []) from rfl) rfl) hl
      · rw [if_neg hc11] at h
        refine Q.map (A.bF (gI_of zm208 (e := (104, 3, .if_icmp .gt 39, [74])) rfl) (fun q => hc11 (of_decide_eq_true q))) ?_
        refine Q.run zm208 3 (i' := 57) (ls' := [some (.ref 121)]) (st' := [.ref 121, .int 10, .ref 121]) rfl ?_
        refine Q.map (A.gf (gI_of zm208 (e := (111, 3, .getfield 206, [9, 39])) rfl) (hl.lt (a := 121) (by decide)) (hl.T (a := 121) (p := (9, 45)) 43 rfl rfl) (by decide) rfl) ?_
        refine Q.run zm208 3 (i' := 61) (ls' := [some (.ref 121)]) (st' := [.ref 121, .ref 121, .int (10 * (sI s 121 39)), .ref 121]) rfl ?_
        refine Q.map (A.gf (gI_of zm208 (e := (117, 3, .getfield 138, [9, 26])) rfl) (hl.lt (a := 121) (by decide)) (hl.T (a := 121) (p := (9, 45)) 43 rfl rfl) (by decide) rfl) ?_
        obtain ⟨r14, hc13, h⟩ := bu_so h
        have hq12 : Q 2 sio tt cc d 176 0 [some (.ref 121), some (.int (sI s 121 26))] [] s (.inl (some (.int r14)), s) := dt176 (by omega) hl  hc13
        refine Q.callI (gC_vi zm208 (show zM208.2.2.2.2.2[62]? = some (120, 3, .invokevirtual 113, [0, 176, 1, 9]) from rfl) zm176 (hl.lt (a := 121) (by decide)) (hl.T (a := 121) (p := (9, 45)) 43 rfl rfl) rfl (show aCr 1 121 [.int (sI s 121 26), .ref 121, .int (10 * (sI s 121 39)), .ref 121] 2 = some ([some (.ref 121), some (.int (sI s 121 26))], [.int (10 * (sI s 121 39)), .ref 121]) from rfl)) hq12 ?_
        refine Q.run zm208 3 (i' := 66) (ls' := [some (.ref 121)]) (st' := [.int (((10 * (sI s 121 39)) + r14) - 48), .ref 121]) rfl ?_
        obtain ⟨s15, hs16, h⟩ := nx_so h
        refine Q.pf hs16 rfl (gI_of zm208 (e := (127, 3, .putfield 206, [9, 39, 0])) rfl) (hl.lt (a := 121) (by decide)) (by decide) (hl.T (a := 121) (p := (9, 45)) 43 rfl rfl) (by decide) rfl rfl ?_
        have hl17 : Ly tt cc s15 := by rw [hs16]; exact hl.wId (by decide)
        refine Q.run zm208 2 (i' := 69) (ls' := [some (.ref 121)]) (st' := [.ref 121, .ref 121]) rfl ?_
        refine Q.map (A.gf (gI_of zm208 (e := (132, 3, .getfield 138, [9, 26])) rfl) (hl17.lt (a := 121) (by decide)) (hl17.T (a := 121) (p := (9, 45)) 43 rfl rfl) (by decide) rfl) ?_
        refine Q.run zm208 2 (i' := 72) (ls' := [some (.ref 121)]) (st' := [.int ((sI s15 121 26) + 1), .ref 121]) rfl ?_
        obtain ⟨s18, hs19, h⟩ := nx_so h
        refine Q.pf hs19 rfl (gI_of zm208 (e := (137, 3, .putfield 138, [9, 26, 0])) rfl) (hl17.lt (a := 121) (by decide)) (by decide) (hl17.T (a := 121) (p := (9, 45)) 43 rfl rfl) (by decide) rfl rfl ?_
        have hl20 : Ly tt cc s18 := by rw [hs19]; exact hl17.wId (by decide)
        refine Q.run zm208 1 (i' := 35) (ls' := [some (.ref 121)]) (st' := []) rfl ?_
        exact ih hl20  h
def dm208_30 (s : aS) : Option (aS) :=
  bu (dm186 (sI s 121 26) s) fun s3 =>
  some s3
set_option maxRecDepth 100000 in
theorem dt208_30 {sio : Bool} {tt : Nat} {cc : Nat → Nat → Int32} {d : Nat} (hd : 1 ≤ d) {s : aS} (hl : Ly tt cc s) {o : aS} (h : dm208_30  s = some o) : Q 2 sio tt cc d 208 30 [some (.ref 121)] [] s (.inl none, o) := by
  unfold dm208_30 at h
  obtain ⟨d, rfl⟩ : ∃ e, d = e + 1 := ⟨d - 1, by omega⟩
  refine Q.run zm208 2 (i' := 32) (ls' := [some (.ref 121)]) (st' := [.ref 121, .ref 121]) rfl ?_
  refine Q.map (A.gf (gI_of zm208 (e := (62, 3, .getfield 138, [9, 26])) rfl) (hl.lt (a := 121) (by decide)) (hl.T (a := 121) (p := (9, 45)) 43 rfl rfl) (by decide) rfl) ?_
  obtain ⟨s3, hc2, h⟩ := bu_so h
  have hq1 : Q 2 sio tt cc d 186 0 [some (.ref 121), some (.int (sI s 121 26))] [] s (.inl none, s3) := dt186 (by omega) hl  hc2
  refine Q.callV (gC_vi zm208 (show zM208.2.2.2.2.2[33]? = some (65, 3, .invokevirtual 164, [0, 186, 1, 9]) from rfl) zm186 (hl.lt (a := 121) (by decide)) (hl.T (a := 121) (p := (9, 45)) 43 rfl rfl) rfl (show aCr 1 121 [.int (sI s 121 26), .ref 121] 2 = some ([some (.ref 121), some (.int (sI s 121 26))], []) from rfl)) hq1 ?_
  cases h
  exact Q.ret (A.rv zm208 (show zM208.2.2.2.2.2[34]? = some (68, 1, .return_, []) from rfl) rfl) hq1.1
def dm208_18 (s : aS) : Option (aS) :=
  bu (dm176 (sI s 121 26) s) fun r3 =>
  bu (dm196 r3) fun r6 =>
  if r6 = 0 then
    dm208_30 s
  else
    bu (dm176 (sI s 121 26) s) fun r10 =>
    if r10 = 48 then
      dm208_30 s
    else
      dm208_35 5000 s
set_option maxRecDepth 100000 in
theorem dt208_18 {sio : Bool} {tt : Nat} {cc : Nat → Nat → Int32} {d : Nat} (hd : 1 ≤ d) {s : aS} (hl : Ly tt cc s) {o : aS} (h : dm208_18  s = some o) : Q 2 sio tt cc d 208 18 [some (.ref 121)] [] s (.inl none, o) := by
  unfold dm208_18 at h
  obtain ⟨d, rfl⟩ : ∃ e, d = e + 1 := ⟨d - 1, by omega⟩
  refine Q.run zm208 2 (i' := 20) (ls' := [some (.ref 121)]) (st' := [.ref 121, .ref 121]) rfl ?_
  refine Q.map (A.gf (gI_of zm208 (e := (35, 3, .getfield 138, [9, 26])) rfl) (hl.lt (a := 121) (by decide)) (hl.T (a := 121) (p := (9, 45)) 43 rfl rfl) (by decide) rfl) ?_
  obtain ⟨r3, hc2, h⟩ := bu_so h
  have hq1 : Q 2 sio tt cc d 176 0 [some (.ref 121), some (.int (sI s 121 26))] [] s (.inl (some (.int r3)), s) := dt176 (by omega) hl  hc2
  refine Q.callI (gC_vi zm208 (show zM208.2.2.2.2.2[21]? = some (38, 3, .invokevirtual 113, [0, 176, 1, 9]) from rfl) zm176 (hl.lt (a := 121) (by decide)) (hl.T (a := 121) (p := (9, 45)) 43 rfl rfl) rfl (show aCr 1 121 [.int (sI s 121 26), .ref 121] 2 = some ([some (.ref 121), some (.int (sI s 121 26))], []) from rfl)) hq1 ?_
  obtain ⟨r6, hc5, h⟩ := bu_so h
  have hq4 : Q 2 sio tt cc d 196 0 [some (.int r3)] [] s (.inl (some (.int r6)), s) := dt196 (by omega) hl  hc5
  refine Q.callI (gC_st zm208 (show zM208.2.2.2.2.2[22]? = some (41, 3, .invokestatic 100, [0, 196, 1]) from rfl) zm196 (show aC 1 [.int r3] 1 = some ([some (.int r3)], []) from rfl)) hq4 ?_
  by_cases hc7 : r6 = 0
  · rw [if_pos hc7] at h
    refine Q.map (A.zT (gI_of zm208 (e := (44, 3, .ifCond .eq 16, [30])) rfl) (decide_eq_true hc7)) ?_
    exact dt208_30 hd hl  h
  · rw [if_neg hc7] at h
    refine Q.map (A.zF (gI_of zm208 (e := (44, 3, .ifCond .eq 16, [30])) rfl) (fun q => hc7 (of_decide_eq_true q))) ?_
    refine Q.run zm208 2 (i' := 26) (ls' := [some (.ref 121)]) (st' := [.ref 121, .ref 121]) rfl ?_
    refine Q.map (A.gf (gI_of zm208 (e := (49, 3, .getfield 138, [9, 26])) rfl) (hl.lt (a := 121) (by decide)) (hl.T (a := 121) (p := (9, 45)) 43 rfl rfl) (by decide) rfl) ?_
    obtain ⟨r10, hc9, h⟩ := bu_so h
    have hq8 : Q 2 sio tt cc d 176 0 [some (.ref 121), some (.int (sI s 121 26))] [] s (.inl (some (.int r10)), s) := dt176 (by omega) hl  hc9
    refine Q.callI (gC_vi zm208 (show zM208.2.2.2.2.2[27]? = some (52, 3, .invokevirtual 113, [0, 176, 1, 9]) from rfl) zm176 (hl.lt (a := 121) (by decide)) (hl.T (a := 121) (p := (9, 45)) 43 rfl rfl) rfl (show aCr 1 121 [.int (sI s 121 26), .ref 121] 2 = some ([some (.ref 121), some (.int (sI s 121 26))], []) from rfl)) hq8 ?_
    refine Q.run zm208 1 (i' := 29) (ls' := [some (.ref 121)]) (st' := [.int 48, .int r10]) rfl ?_
    by_cases hc11 : r10 = 48
    · rw [if_pos hc11] at h
      refine Q.map (A.bF (gI_of zm208 (e := (57, 3, .if_icmp .ne 12, [35])) rfl) (fun q => of_decide_eq_true q hc11)) ?_
      exact dt208_30 hd hl  h
    · rw [if_neg hc11] at h
      refine Q.map (A.bT (gI_of zm208 (e := (57, 3, .if_icmp .ne 12, [35])) rfl) (decide_eq_true hc11)) ?_
      exact dt208_35 hd _ hl  h
def dm208 (s : aS) : Option (aS) :=
  bu (dm176 (sI s 121 26) s) fun r3 =>
  if r3 = 36 then
    nx (wI s 121 41 ((sI s 121 41) + 1)) fun s5 =>
    nx (wI s5 121 26 ((sI s5 121 26) + 1)) fun s8 =>
    dm208_18 s8
  else
    dm208_18 s
set_option maxRecDepth 100000 in
theorem dt208 {sio : Bool} {tt : Nat} {cc : Nat → Nat → Int32} {d : Nat} (hd : 1 ≤ d) {s : aS} (hl : Ly tt cc s) {o : aS} (h : dm208  s = some o) : Q 2 sio tt cc d 208 0 [some (.ref 121)] [] s (.inl none, o) := by
  unfold dm208 at h
  obtain ⟨d, rfl⟩ : ∃ e, d = e + 1 := ⟨d - 1, by omega⟩
  refine Q.run zm208 2 (i' := 2) (ls' := [some (.ref 121)]) (st' := [.ref 121, .ref 121]) rfl ?_
  refine Q.map (A.gf (gI_of zm208 (e := (2, 3, .getfield 138, [9, 26])) rfl) (hl.lt (a := 121) (by decide)) (hl.T (a := 121) (p := (9, 45)) 43 rfl rfl) (by decide) rfl) ?_
  obtain ⟨r3, hc2, h⟩ := bu_so h
  have hq1 : Q 2 sio tt cc d 176 0 [some (.ref 121), some (.int (sI s 121 26))] [] s (.inl (some (.int r3)), s) := dt176 (by omega) hl  hc2
  refine Q.callI (gC_vi zm208 (show zM208.2.2.2.2.2[3]? = some (5, 3, .invokevirtual 113, [0, 176, 1, 9]) from rfl) zm176 (hl.lt (a := 121) (by decide)) (hl.T (a := 121) (p := (9, 45)) 43 rfl rfl) rfl (show aCr 1 121 [.int (sI s 121 26), .ref 121] 2 = some ([some (.ref 121), some (.int (sI s 121 26))], []) from rfl)) hq1 ?_
  refine Q.run zm208 1 (i' := 5) (ls' := [some (.ref 121)]) (st' := [.int 36, .int r3]) rfl ?_
  by_cases hc4 : r3 = 36
  · rw [if_pos hc4] at h
    refine Q.map (A.bF (gI_of zm208 (e := (10, 3, .if_icmp .ne 23, [18])) rfl) (fun q => of_decide_eq_true q hc4)) ?_
    refine Q.run zm208 2 (i' := 8) (ls' := [some (.ref 121)]) (st' := [.ref 121, .ref 121]) rfl ?_
    refine Q.map (A.gf (gI_of zm208 (e := (15, 3, .getfield 200, [9, 41])) rfl) (hl.lt (a := 121) (by decide)) (hl.T (a := 121) (p := (9, 45)) 43 rfl rfl) (by decide) rfl) ?_
    refine Q.run zm208 2 (i' := 11) (ls' := [some (.ref 121)]) (st' := [.int ((sI s 121 41) + 1), .ref 121]) rfl ?_
    obtain ⟨s5, hs6, h⟩ := nx_so h
    refine Q.pf hs6 rfl (gI_of zm208 (e := (20, 3, .putfield 200, [9, 41, 0])) rfl) (hl.lt (a := 121) (by decide)) (by decide) (hl.T (a := 121) (p := (9, 45)) 43 rfl rfl) (by decide) rfl rfl ?_
    have hl7 : Ly tt cc s5 := by rw [hs6]; exact hl.wId (by decide)
    refine Q.run zm208 2 (i' := 14) (ls' := [some (.ref 121)]) (st' := [.ref 121, .ref 121]) rfl ?_
    refine Q.map (A.gf (gI_of zm208 (e := (25, 3, .getfield 138, [9, 26])) rfl) (hl7.lt (a := 121) (by decide)) (hl7.T (a := 121) (p := (9, 45)) 43 rfl rfl) (by decide) rfl) ?_
    refine Q.run zm208 2 (i' := 17) (ls' := [some (.ref 121)]) (st' := [.int ((sI s5 121 26) + 1), .ref 121]) rfl ?_
    obtain ⟨s8, hs9, h⟩ := nx_so h
    refine Q.pf hs9 rfl (gI_of zm208 (e := (30, 3, .putfield 138, [9, 26, 0])) rfl) (hl7.lt (a := 121) (by decide)) (by decide) (hl7.T (a := 121) (p := (9, 45)) 43 rfl rfl) (by decide) rfl rfl ?_
    have hl10 : Ly tt cc s8 := by rw [hs9]; exact hl7.wId (by decide)
    exact dt208_18 hd hl10  h
  · rw [if_neg hc4] at h
    refine Q.map (A.bT (gI_of zm208 (e := (10, 3, .if_icmp .ne 23, [18])) rfl) (decide_eq_true hc4)) ?_
    exact dt208_18 hd hl  h
/-! 207 FormulaTreesModel.readCell()V -/
set_option maxRecDepth 100000 in
theorem zm207 : zP[207]? = some zM207 := rfl
def dm207_71 (x1 : Int32) (s : aS) : Option (aS) :=
  if x1 = 0 then
    bu (dm186 (sI s 121 26) s) fun s4 =>
    some s4
  else
    bu (dm208 s) fun s7 =>
    some s7
set_option maxRecDepth 100000 in
theorem dt207_71 {sio : Bool} {tt : Nat} {cc : Nat → Nat → Int32} {d : Nat} (hd : 2 ≤ d) {x1 : Int32} {s : aS} (hl : Ly tt cc s) {o : aS} (h : dm207_71  x1 s = some o) : Q 2 sio tt cc d 207 71 [some (.ref 121), some (.int x1)] [] s (.inl none, o) := by
  unfold dm207_71 at h
  obtain ⟨d, rfl⟩ : ∃ e, d = e + 1 := ⟨d - 1, by omega⟩
  refine Q.run zm207 1 (i' := 72) (ls' := [some (.ref 121), some (.int x1)]) (st' := [.int x1]) rfl ?_
  by_cases hc1 : x1 = 0
  · rw [if_pos hc1] at h
    refine Q.map (A.zF (gI_of zm207 (e := (135, 3, .ifCond .ne 14, [78])) rfl) (fun q => of_decide_eq_true q hc1)) ?_
    refine Q.run zm207 2 (i' := 75) (ls' := [some (.ref 121), some (.int x1)]) (st' := [.ref 121, .ref 121]) rfl ?_
    refine Q.map (A.gf (gI_of zm207 (e := (140, 3, .getfield 138, [9, 26])) rfl) (hl.lt (a := 121) (by decide)) (hl.T (a := 121) (p := (9, 45)) 43 rfl rfl) (by decide) rfl) ?_
    obtain ⟨s4, hc3, h⟩ := bu_so h
    have hq2 : Q 2 sio tt cc d 186 0 [some (.ref 121), some (.int (sI s 121 26))] [] s (.inl none, s4) := dt186 (by omega) hl  hc3
    refine Q.callV (gC_vi zm207 (show zM207.2.2.2.2.2[76]? = some (143, 3, .invokevirtual 164, [0, 186, 1, 9]) from rfl) zm186 (hl.lt (a := 121) (by decide)) (hl.T (a := 121) (p := (9, 45)) 43 rfl rfl) rfl (show aCr 1 121 [.int (sI s 121 26), .ref 121] 2 = some ([some (.ref 121), some (.int (sI s 121 26))], []) from rfl)) hq2 ?_
    refine Q.run zm207 1 (i' := 80) (ls' := [some (.ref 121), some (.int x1)]) (st' := []) rfl ?_
    cases h
    exact Q.ret (A.rv zm207 (show zM207.2.2.2.2.2[80]? = some (153, 1, .return_, []) from rfl) rfl) hq2.1
  · rw [if_neg hc1] at h
    refine Q.map (A.zT (gI_of zm207 (e := (135, 3, .ifCond .ne 14, [78])) rfl) (decide_eq_true hc1)) ?_
    refine Q.run zm207 1 (i' := 79) (ls' := [some (.ref 121), some (.int x1)]) (st' := [.ref 121]) rfl ?_
    obtain ⟨s7, hc6, h⟩ := bu_so h
    have hq5 : Q 2 sio tt cc d 208 0 [some (.ref 121)] [] s (.inl none, s7) := dt208 (by omega) hl  hc6
    refine Q.callV (gC_vi zm207 (show zM207.2.2.2.2.2[79]? = some (150, 3, .invokevirtual 209, [0, 208, 0, 9]) from rfl) zm208 (hl.lt (a := 121) (by decide)) (hl.T (a := 121) (p := (9, 45)) 43 rfl rfl) rfl (show aCr 0 121 [.ref 121] 1 = some ([some (.ref 121)], []) from rfl)) hq5 ?_
    cases h
    exact Q.ret (A.rv zm207 (show zM207.2.2.2.2.2[80]? = some (153, 1, .return_, []) from rfl) rfl) hq5.1
def dm207_26 : Nat → Int32 → aS → Option (aS)
  | 0, _, _ => none
  | n + 1, x1, s =>
    bu (dm176 (sI s 121 26) s) fun r3 =>
    bu (dm198 r3) fun r6 =>
    if r6 = 0 then
      dm207_71 x1 s
    else
      if 3 ≤ x1 then
        dm207_71 x1 s
      else
        bu (dm176 (sI s 121 26) s) fun r11 =>
        bu (dm178 r11) fun r14 =>
        if 16384 < (((26 * (sI s 121 40)) + r14) - 64) then
          dm207_71 x1 s
        else
          bu (dm176 (sI s 121 26) s) fun r18 =>
          bu (dm178 r18) fun r21 =>
          nx (wI s 121 40 (((26 * (sI s 121 40)) + r21) - 64)) fun s22 =>
          nx (wI s22 121 26 ((sI s22 121 26) + 1)) fun s25 =>
          dm207_26 n (x1 + 1) s25
set_option maxRecDepth 100000 in
theorem dt207_26 {sio : Bool} {tt : Nat} {cc : Nat → Nat → Int32} {d : Nat} (hd : 2 ≤ d) : ∀ (n : Nat) {x1 : Int32} {s : aS} (_ : Ly tt cc s) {o : aS} (_ : dm207_26  n x1 s = some o), Q 2 sio tt cc d 207 26 [some (.ref 121), some (.int x1)] [] s (.inl none, o) := by
  obtain ⟨d, rfl⟩ : ∃ e, d = e + 1 := ⟨d - 1, by omega⟩
  intro n
  induction n with
  | zero => intro x1 s hl o h; rw [dm207_26] at h; cases h
  | succ n ih =>
    intro x1 s hl o h
    rw [dm207_26] at h
    refine Q.run zm207 2 (i' := 28) (ls' := [some (.ref 121), some (.int x1)]) (st' := [.ref 121, .ref 121]) rfl ?_
    refine Q.map (A.gf (gI_of zm207 (e := (47, 3, .getfield 138, [9, 26])) rfl) (hl.lt (a := 121) (by decide)) (hl.T (a := 121) (p := (9, 45)) 43 rfl rfl) (by decide) rfl) ?_
    obtain ⟨r3, hc2, h⟩ := bu_so h
    have hq1 : Q 2 sio tt cc d 176 0 [some (.ref 121), some (.int (sI s 121 26))] [] s (.inl (some (.int r3)), s) := dt176 (by omega) hl  hc2
    refine Q.callI (gC_vi zm207 (show zM207.2.2.2.2.2[29]? = some (50, 3, .invokevirtual 113, [0, 176, 1, 9]) from rfl) zm176 (hl.lt (a := 121) (by decide)) (hl.T (a := 121) (p := (9, 45)) 43 rfl rfl) rfl (show aCr 1 121 [.int (sI s 121 26), .ref 121] 2 = some ([some (.ref 121), some (.int (sI s 121 26))], []) from rfl)) hq1 ?_
    obtain ⟨r6, hc5, h⟩ := bu_so h
    have hq4 : Q 2 sio tt cc d 198 0 [some (.int r3)] [] s (.inl (some (.int r6)), s) := dt198 (by omega) hl  hc5
    refine Q.callI (gC_st zm207 (show zM207.2.2.2.2.2[30]? = some (53, 3, .invokestatic 93, [0, 198, 1]) from rfl) zm198 (show aC 1 [.int r3] 1 = some ([some (.int r3)], []) from rfl)) hq4 ?_
    by_cases hc7 : r6 = 0
    · rw [if_pos hc7] at h
      refine Q.map (A.zT (gI_of zm207 (e := (56, 3, .ifCond .eq 78, [71])) rfl) (decide_eq_true hc7)) ?_
      exact dt207_71 hd hl  h
    · rw [if_neg hc7] at h
      refine Q.map (A.zF (gI_of zm207 (e := (56, 3, .ifCond .eq 78, [71])) rfl) (fun q => hc7 (of_decide_eq_true q))) ?_
      refine Q.run zm207 2 (i' := 34) (ls' := [some (.ref 121), some (.int x1)]) (st' := [.int 3, .int x1]) rfl ?_
      by_cases hc8 : 3 ≤ x1
      · rw [if_pos hc8] at h
        refine Q.map (A.bT (gI_of zm207 (e := (61, 3, .if_icmp .ge 73, [71])) rfl) (decide_eq_true hc8)) ?_
        exact dt207_71 hd hl  h
      · rw [if_neg hc8] at h
        refine Q.map (A.bF (gI_of zm207 (e := (61, 3, .if_icmp .ge 73, [71])) rfl) (fun q => hc8 (of_decide_eq_true q))) ?_
        refine Q.run zm207 2 (i' := 37) (ls' := [some (.ref 121), some (.int x1)]) (st' := [.ref 121, .int 26]) rfl ?_
        refine Q.map (A.gf (gI_of zm207 (e := (67, 3, .getfield 203, [9, 40])) rfl) (hl.lt (a := 121) (by decide)) (hl.T (a := 121) (p := (9, 45)) 43 rfl rfl) (by decide) rfl) ?_
        refine Q.run zm207 3 (i' := 41) (ls' := [some (.ref 121), some (.int x1)]) (st' := [.ref 121, .ref 121, .int (26 * (sI s 121 40))]) rfl ?_
        refine Q.map (A.gf (gI_of zm207 (e := (73, 3, .getfield 138, [9, 26])) rfl) (hl.lt (a := 121) (by decide)) (hl.T (a := 121) (p := (9, 45)) 43 rfl rfl) (by decide) rfl) ?_
        obtain ⟨r11, hc10, h⟩ := bu_so h
        have hq9 : Q 2 sio tt cc d 176 0 [some (.ref 121), some (.int (sI s 121 26))] [] s (.inl (some (.int r11)), s) := dt176 (by omega) hl  hc10
        refine Q.callI (gC_vi zm207 (show zM207.2.2.2.2.2[42]? = some (76, 3, .invokevirtual 113, [0, 176, 1, 9]) from rfl) zm176 (hl.lt (a := 121) (by decide)) (hl.T (a := 121) (p := (9, 45)) 43 rfl rfl) rfl (show aCr 1 121 [.int (sI s 121 26), .ref 121, .int (26 * (sI s 121 40))] 2 = some ([some (.ref 121), some (.int (sI s 121 26))], [.int (26 * (sI s 121 40))]) from rfl)) hq9 ?_
        obtain ⟨r14, hc13, h⟩ := bu_so h
        have hq12 : Q 2 sio tt cc d 178 0 [some (.int r11)] [] s (.inl (some (.int r14)), s) := dt178 (by omega) hl  hc13
        refine Q.callI (gC_st zm207 (show zM207.2.2.2.2.2[43]? = some (79, 3, .invokestatic 109, [0, 178, 1]) from rfl) zm178 (show aC 1 [.int r11, .int (26 * (sI s 121 40))] 1 = some ([some (.int r11)], [.int (26 * (sI s 121 40))]) from rfl)) hq12 ?_
        refine Q.run zm207 4 (i' := 48) (ls' := [some (.ref 121), some (.int x1)]) (st' := [.int 16384, .int (((26 * (sI s 121 40)) + r14) - 64)]) rfl ?_
        by_cases hc15 : 16384 < (((26 * (sI s 121 40)) + r14) - 64)
        · rw [if_pos hc15] at h
          refine Q.map (A.bT (gI_of zm207 (e := (89, 3, .if_icmp .gt 45, [71])) rfl) (decide_eq_true hc15)) ?_
          exact dt207_71 hd hl  h
        · rw [if_neg hc15] at h
          refine Q.map (A.bF (gI_of zm207 (e := (89, 3, .if_icmp .gt 45, [71])) rfl) (fun q => hc15 (of_decide_eq_true q))) ?_
          refine Q.run zm207 3 (i' := 52) (ls' := [some (.ref 121), some (.int x1)]) (st' := [.ref 121, .int 26, .ref 121]) rfl ?_
          refine Q.map (A.gf (gI_of zm207 (e := (96, 3, .getfield 203, [9, 40])) rfl) (hl.lt (a := 121) (by decide)) (hl.T (a := 121) (p := (9, 45)) 43 rfl rfl) (by decide) rfl) ?_
          refine Q.run zm207 3 (i' := 56) (ls' := [some (.ref 121), some (.int x1)]) (st' := [.ref 121, .ref 121, .int (26 * (sI s 121 40)), .ref 121]) rfl ?_
          refine Q.map (A.gf (gI_of zm207 (e := (102, 3, .getfield 138, [9, 26])) rfl) (hl.lt (a := 121) (by decide)) (hl.T (a := 121) (p := (9, 45)) 43 rfl rfl) (by decide) rfl) ?_
          obtain ⟨r18, hc17, h⟩ := bu_so h
          have hq16 : Q 2 sio tt cc d 176 0 [some (.ref 121), some (.int (sI s 121 26))] [] s (.inl (some (.int r18)), s) := dt176 (by omega) hl  hc17
          refine Q.callI (gC_vi zm207 (show zM207.2.2.2.2.2[57]? = some (105, 3, .invokevirtual 113, [0, 176, 1, 9]) from rfl) zm176 (hl.lt (a := 121) (by decide)) (hl.T (a := 121) (p := (9, 45)) 43 rfl rfl) rfl (show aCr 1 121 [.int (sI s 121 26), .ref 121, .int (26 * (sI s 121 40)), .ref 121] 2 = some ([some (.ref 121), some (.int (sI s 121 26))], [.int (26 * (sI s 121 40)), .ref 121]) from rfl)) hq16 ?_
          obtain ⟨r21, hc20, h⟩ := bu_so h
          have hq19 : Q 2 sio tt cc d 178 0 [some (.int r18)] [] s (.inl (some (.int r21)), s) := dt178 (by omega) hl  hc20
          refine Q.callI (gC_st zm207 (show zM207.2.2.2.2.2[58]? = some (108, 3, .invokestatic 109, [0, 178, 1]) from rfl) zm178 (show aC 1 [.int r18, .int (26 * (sI s 121 40)), .ref 121] 1 = some ([some (.int r18)], [.int (26 * (sI s 121 40)), .ref 121]) from rfl)) hq19 ?_
          refine Q.run zm207 3 (i' := 62) (ls' := [some (.ref 121), some (.int x1)]) (st' := [.int (((26 * (sI s 121 40)) + r21) - 64), .ref 121]) rfl ?_
          obtain ⟨s22, hs23, h⟩ := nx_so h
          refine Q.pf hs23 rfl (gI_of zm207 (e := (115, 3, .putfield 203, [9, 40, 0])) rfl) (hl.lt (a := 121) (by decide)) (by decide) (hl.T (a := 121) (p := (9, 45)) 43 rfl rfl) (by decide) rfl rfl ?_
          have hl24 : Ly tt cc s22 := by rw [hs23]; exact hl.wId (by decide)
          refine Q.run zm207 2 (i' := 65) (ls' := [some (.ref 121), some (.int x1)]) (st' := [.ref 121, .ref 121]) rfl ?_
          refine Q.map (A.gf (gI_of zm207 (e := (120, 3, .getfield 138, [9, 26])) rfl) (hl24.lt (a := 121) (by decide)) (hl24.T (a := 121) (p := (9, 45)) 43 rfl rfl) (by decide) rfl) ?_
          refine Q.run zm207 2 (i' := 68) (ls' := [some (.ref 121), some (.int x1)]) (st' := [.int ((sI s22 121 26) + 1), .ref 121]) rfl ?_
          obtain ⟨s25, hs26, h⟩ := nx_so h
          refine Q.pf hs26 rfl (gI_of zm207 (e := (125, 3, .putfield 138, [9, 26, 0])) rfl) (hl24.lt (a := 121) (by decide)) (by decide) (hl24.T (a := 121) (p := (9, 45)) 43 rfl rfl) (by decide) rfl rfl ?_
          have hl27 : Ly tt cc s25 := by rw [hs26]; exact hl24.wId (by decide)
          refine Q.run zm207 2 (i' := 26) (ls' := [some (.ref 121), some (.int (x1 + 1))]) (st' := []) rfl ?_
          exact ih hl27  h
def dm207_24 (s : aS) : Option (aS) :=
  dm207_26 5000 0 s
set_option maxRecDepth 100000 in
theorem dt207_24 {sio : Bool} {tt : Nat} {cc : Nat → Nat → Int32} {d : Nat} (hd : 2 ≤ d) {s : aS} (hl : Ly tt cc s) {o : aS} (h : dm207_24  s = some o) : Q 2 sio tt cc d 207 24 [some (.ref 121), none] [] s (.inl none, o) := by
  unfold dm207_24 at h
  obtain ⟨d, rfl⟩ : ∃ e, d = e + 1 := ⟨d - 1, by omega⟩
  refine Q.run zm207 2 (i' := 26) (ls' := [some (.ref 121), some (.int 0)]) (st' := []) rfl ?_
  exact dt207_26 hd _ hl  h
def dm207 (s : aS) : Option (aS) :=
  nx (wI s 121 41 0) fun s1 =>
  nx (wI s1 121 40 0) fun s4 =>
  nx (wI s4 121 39 0) fun s7 =>
  bu (dm176 (sI s7 121 26) s7) fun r12 =>
  if r12 = 36 then
    nx (wI s7 121 41 2) fun s14 =>
    nx (wI s14 121 26 ((sI s14 121 26) + 1)) fun s17 =>
    dm207_24 s17
  else
    dm207_24 s7
set_option maxRecDepth 100000 in
theorem dt207 {sio : Bool} {tt : Nat} {cc : Nat → Nat → Int32} {d : Nat} (hd : 2 ≤ d) {s : aS} (hl : Ly tt cc s) {o : aS} (h : dm207  s = some o) : Q 2 sio tt cc d 207 0 [some (.ref 121), none] [] s (.inl none, o) := by
  unfold dm207 at h
  obtain ⟨d, rfl⟩ : ∃ e, d = e + 1 := ⟨d - 1, by omega⟩
  refine Q.run zm207 2 (i' := 2) (ls' := [some (.ref 121), none]) (st' := [.int 0, .ref 121]) rfl ?_
  obtain ⟨s1, hs2, h⟩ := nx_so h
  refine Q.pf hs2 rfl (gI_of zm207 (e := (2, 3, .putfield 200, [9, 41, 0])) rfl) (hl.lt (a := 121) (by decide)) (by decide) (hl.T (a := 121) (p := (9, 45)) 43 rfl rfl) (by decide) rfl rfl ?_
  have hl3 : Ly tt cc s1 := by rw [hs2]; exact hl.wId (by decide)
  refine Q.run zm207 2 (i' := 5) (ls' := [some (.ref 121), none]) (st' := [.int 0, .ref 121]) rfl ?_
  obtain ⟨s4, hs5, h⟩ := nx_so h
  refine Q.pf hs5 rfl (gI_of zm207 (e := (7, 3, .putfield 203, [9, 40, 0])) rfl) (hl3.lt (a := 121) (by decide)) (by decide) (hl3.T (a := 121) (p := (9, 45)) 43 rfl rfl) (by decide) rfl rfl ?_
  have hl6 : Ly tt cc s4 := by rw [hs5]; exact hl3.wId (by decide)
  refine Q.run zm207 2 (i' := 8) (ls' := [some (.ref 121), none]) (st' := [.int 0, .ref 121]) rfl ?_
  obtain ⟨s7, hs8, h⟩ := nx_so h
  refine Q.pf hs8 rfl (gI_of zm207 (e := (12, 3, .putfield 206, [9, 39, 0])) rfl) (hl6.lt (a := 121) (by decide)) (by decide) (hl6.T (a := 121) (p := (9, 45)) 43 rfl rfl) (by decide) rfl rfl ?_
  have hl9 : Ly tt cc s7 := by rw [hs8]; exact hl6.wId (by decide)
  refine Q.run zm207 2 (i' := 11) (ls' := [some (.ref 121), none]) (st' := [.ref 121, .ref 121]) rfl ?_
  refine Q.map (A.gf (gI_of zm207 (e := (17, 3, .getfield 138, [9, 26])) rfl) (hl9.lt (a := 121) (by decide)) (hl9.T (a := 121) (p := (9, 45)) 43 rfl rfl) (by decide) rfl) ?_
  obtain ⟨r12, hc11, h⟩ := bu_so h
  have hq10 : Q 2 sio tt cc d 176 0 [some (.ref 121), some (.int (sI s7 121 26))] [] s7 (.inl (some (.int r12)), s7) := dt176 (by omega) hl9  hc11
  refine Q.callI (gC_vi zm207 (show zM207.2.2.2.2.2[12]? = some (20, 3, .invokevirtual 113, [0, 176, 1, 9]) from rfl) zm176 (hl9.lt (a := 121) (by decide)) (hl9.T (a := 121) (p := (9, 45)) 43 rfl rfl) rfl (show aCr 1 121 [.int (sI s7 121 26), .ref 121] 2 = some ([some (.ref 121), some (.int (sI s7 121 26))], []) from rfl)) hq10 ?_
  refine Q.run zm207 1 (i' := 14) (ls' := [some (.ref 121), none]) (st' := [.int 36, .int r12]) rfl ?_
  by_cases hc13 : r12 = 36
  · rw [if_pos hc13] at h
    refine Q.map (A.bF (gI_of zm207 (e := (25, 3, .if_icmp .ne 18, [24])) rfl) (fun q => of_decide_eq_true q hc13)) ?_
    refine Q.run zm207 2 (i' := 17) (ls' := [some (.ref 121), none]) (st' := [.int 2, .ref 121]) rfl ?_
    obtain ⟨s14, hs15, h⟩ := nx_so h
    refine Q.pf hs15 rfl (gI_of zm207 (e := (30, 3, .putfield 200, [9, 41, 0])) rfl) (hl9.lt (a := 121) (by decide)) (by decide) (hl9.T (a := 121) (p := (9, 45)) 43 rfl rfl) (by decide) rfl rfl ?_
    have hl16 : Ly tt cc s14 := by rw [hs15]; exact hl9.wId (by decide)
    refine Q.run zm207 2 (i' := 20) (ls' := [some (.ref 121), none]) (st' := [.ref 121, .ref 121]) rfl ?_
    refine Q.map (A.gf (gI_of zm207 (e := (35, 3, .getfield 138, [9, 26])) rfl) (hl16.lt (a := 121) (by decide)) (hl16.T (a := 121) (p := (9, 45)) 43 rfl rfl) (by decide) rfl) ?_
    refine Q.run zm207 2 (i' := 23) (ls' := [some (.ref 121), none]) (st' := [.int ((sI s14 121 26) + 1), .ref 121]) rfl ?_
    obtain ⟨s17, hs18, h⟩ := nx_so h
    refine Q.pf hs18 rfl (gI_of zm207 (e := (40, 3, .putfield 138, [9, 26, 0])) rfl) (hl16.lt (a := 121) (by decide)) (by decide) (hl16.T (a := 121) (p := (9, 45)) 43 rfl rfl) (by decide) rfl rfl ?_
    have hl19 : Ly tt cc s17 := by rw [hs18]; exact hl16.wId (by decide)
    exact dt207_24 hd hl19  h
  · rw [if_neg hc13] at h
    refine Q.map (A.bT (gI_of zm207 (e := (25, 3, .if_icmp .ne 18, [24])) rfl) (decide_eq_true hc13)) ?_
    exact dt207_24 hd hl9  h
/-! 209 FormulaTreesModel.makeCell(I)V -/
set_option maxRecDepth 100000 in
theorem zm209 : zP[209]? = some zM209 := rfl
def dm209 (x1 : Int32) (s : aS) : Option (aS) :=
  bv (dm187 4 s) fun r4 s3 =>
  if aB (1024 + r4) 1152 then
    nx (wI s3 130 (jN (1024 + r4)) x1) fun s6 =>
    if aB (1024 + r4) 1152 then
      nx (wI s6 131 (jN (1024 + r4)) (sI s6 121 39)) fun s10 =>
      if aB (1024 + r4) 1152 then
        nx (wI s10 132 (jN (1024 + r4)) (sI s10 121 40)) fun s14 =>
        if aB (1024 + r4) 1152 then
          nx (wI s14 133 (jN (1024 + r4)) (sI s14 121 39)) fun s18 =>
          if aB (1024 + r4) 1152 then
            nx (wI s18 134 (jN (1024 + r4)) (sI s18 121 40)) fun s22 =>
            if aB (1024 + r4) 1152 then
              nx (wI s22 135 (jN (1024 + r4)) (sI s22 121 41)) fun s26 =>
              bu (dm194 r4 s26) fun s31 =>
              nx (wI s31 121 34 r4) fun s32 =>
              some s32
            else none
          else none
        else none
      else none
    else none
  else none
set_option maxRecDepth 100000 in
theorem dt209 {sio : Bool} {tt : Nat} {cc : Nat → Nat → Int32} {d : Nat} (hd : 1 ≤ d) {x1 : Int32} {s : aS} (hl : Ly tt cc s) {o : aS} (h : dm209  x1 s = some o) : Q 2 sio tt cc d 209 0 [some (.ref 121), some (.int x1), none, none] [] s (.inl none, o) := by
  unfold dm209 at h
  obtain ⟨d, rfl⟩ : ∃ e, d = e + 1 := ⟨d - 1, by omega⟩
  refine Q.run zm209 2 (i' := 2) (ls' := [some (.ref 121), some (.int x1), none, none]) (st' := [.int 4, .ref 121]) rfl ?_
  obtain ⟨r4, s3, hc2, h⟩ := bv_so h
  have hq1 : Q 2 sio tt cc d 187 0 [some (.ref 121), some (.int 4), none, none] [] s (.inl (some (.int r4)), s3) := dt187 (by omega) hl  hc2
  refine Q.callI (gC_vi zm209 (show zM209.2.2.2.2.2[2]? = some (2, 3, .invokevirtual 167, [0, 187, 1, 9]) from rfl) zm187 (hl.lt (a := 121) (by decide)) (hl.T (a := 121) (p := (9, 45)) 43 rfl rfl) rfl (show aCr 1 121 [.int 4, .ref 121] 4 = some ([some (.ref 121), some (.int 4), none, none], []) from rfl)) hq1 ?_
  refine Q.run zm209 6 (i' := 9) (ls' := [some (.ref 121), some (.int x1), some (.int r4), some (.int (1024 + r4))]) (st' := [.ref 121]) rfl ?_
  refine Q.map (A.gf (gI_of zm209 (e := (13, 3, .getfield 35, [9, 11])) rfl) (hq1.1.lt (a := 121) (by decide)) (hq1.1.T (a := 121) (p := (9, 45)) 43 rfl rfl) (by decide) (hq1.1.R 31 rfl)) ?_
  refine Q.run zm209 2 (i' := 12) (ls' := [some (.ref 121), some (.int x1), some (.int r4), some (.int (1024 + r4))]) (st' := [.int x1, .int (1024 + r4), .ref 130]) rfl ?_
  obtain ⟨hc5, h⟩ := ite_so h
  obtain ⟨s6, hs7, h⟩ := nx_so h
  refine Q.is hs7 rfl (gI_of zm209 (e := (18, 1, .iastore, [])) rfl) (hq1.1.lt (a := 130) (by decide)) (by decide) (hq1.1.T (a := 130) (p := (100, 1152)) 52 rfl rfl) hc5 ?_
  have hl8 : Ly tt cc s6 := by rw [hs7]; exact hq1.1.wId (by decide)
  refine Q.run zm209 1 (i' := 14) (ls' := [some (.ref 121), some (.int x1), some (.int r4), some (.int (1024 + r4))]) (st' := [.ref 121]) rfl ?_
  refine Q.map (A.gf (gI_of zm209 (e := (20, 3, .getfield 38, [9, 12])) rfl) (hl8.lt (a := 121) (by decide)) (hl8.T (a := 121) (p := (9, 45)) 43 rfl rfl) (by decide) (hl8.R 32 rfl)) ?_
  refine Q.run zm209 2 (i' := 17) (ls' := [some (.ref 121), some (.int x1), some (.int r4), some (.int (1024 + r4))]) (st' := [.ref 121, .int (1024 + r4), .ref 131]) rfl ?_
  refine Q.map (A.gf (gI_of zm209 (e := (25, 3, .getfield 206, [9, 39])) rfl) (hl8.lt (a := 121) (by decide)) (hl8.T (a := 121) (p := (9, 45)) 43 rfl rfl) (by decide) rfl) ?_
  obtain ⟨hc9, h⟩ := ite_so h
  obtain ⟨s10, hs11, h⟩ := nx_so h
  refine Q.is hs11 rfl (gI_of zm209 (e := (28, 1, .iastore, [])) rfl) (hl8.lt (a := 131) (by decide)) (by decide) (hl8.T (a := 131) (p := (100, 1152)) 53 rfl rfl) hc9 ?_
  have hl12 : Ly tt cc s10 := by rw [hs11]; exact hl8.wId (by decide)
  refine Q.run zm209 1 (i' := 20) (ls' := [some (.ref 121), some (.int x1), some (.int r4), some (.int (1024 + r4))]) (st' := [.ref 121]) rfl ?_
  refine Q.map (A.gf (gI_of zm209 (e := (30, 3, .getfield 41, [9, 13])) rfl) (hl12.lt (a := 121) (by decide)) (hl12.T (a := 121) (p := (9, 45)) 43 rfl rfl) (by decide) (hl12.R 33 rfl)) ?_
  refine Q.run zm209 2 (i' := 23) (ls' := [some (.ref 121), some (.int x1), some (.int r4), some (.int (1024 + r4))]) (st' := [.ref 121, .int (1024 + r4), .ref 132]) rfl ?_
  refine Q.map (A.gf (gI_of zm209 (e := (35, 3, .getfield 203, [9, 40])) rfl) (hl12.lt (a := 121) (by decide)) (hl12.T (a := 121) (p := (9, 45)) 43 rfl rfl) (by decide) rfl) ?_
  obtain ⟨hc13, h⟩ := ite_so h
  obtain ⟨s14, hs15, h⟩ := nx_so h
  refine Q.is hs15 rfl (gI_of zm209 (e := (38, 1, .iastore, [])) rfl) (hl12.lt (a := 132) (by decide)) (by decide) (hl12.T (a := 132) (p := (100, 1152)) 54 rfl rfl) hc13 ?_
  have hl16 : Ly tt cc s14 := by rw [hs15]; exact hl12.wId (by decide)
  refine Q.run zm209 1 (i' := 26) (ls' := [some (.ref 121), some (.int x1), some (.int r4), some (.int (1024 + r4))]) (st' := [.ref 121]) rfl ?_
  refine Q.map (A.gf (gI_of zm209 (e := (40, 3, .getfield 44, [9, 14])) rfl) (hl16.lt (a := 121) (by decide)) (hl16.T (a := 121) (p := (9, 45)) 43 rfl rfl) (by decide) (hl16.R 34 rfl)) ?_
  refine Q.run zm209 2 (i' := 29) (ls' := [some (.ref 121), some (.int x1), some (.int r4), some (.int (1024 + r4))]) (st' := [.ref 121, .int (1024 + r4), .ref 133]) rfl ?_
  refine Q.map (A.gf (gI_of zm209 (e := (45, 3, .getfield 206, [9, 39])) rfl) (hl16.lt (a := 121) (by decide)) (hl16.T (a := 121) (p := (9, 45)) 43 rfl rfl) (by decide) rfl) ?_
  obtain ⟨hc17, h⟩ := ite_so h
  obtain ⟨s18, hs19, h⟩ := nx_so h
  refine Q.is hs19 rfl (gI_of zm209 (e := (48, 1, .iastore, [])) rfl) (hl16.lt (a := 133) (by decide)) (by decide) (hl16.T (a := 133) (p := (100, 1152)) 55 rfl rfl) hc17 ?_
  have hl20 : Ly tt cc s18 := by rw [hs19]; exact hl16.wId (by decide)
  refine Q.run zm209 1 (i' := 32) (ls' := [some (.ref 121), some (.int x1), some (.int r4), some (.int (1024 + r4))]) (st' := [.ref 121]) rfl ?_
  refine Q.map (A.gf (gI_of zm209 (e := (50, 3, .getfield 47, [9, 15])) rfl) (hl20.lt (a := 121) (by decide)) (hl20.T (a := 121) (p := (9, 45)) 43 rfl rfl) (by decide) (hl20.R 35 rfl)) ?_
  refine Q.run zm209 2 (i' := 35) (ls' := [some (.ref 121), some (.int x1), some (.int r4), some (.int (1024 + r4))]) (st' := [.ref 121, .int (1024 + r4), .ref 134]) rfl ?_
  refine Q.map (A.gf (gI_of zm209 (e := (55, 3, .getfield 203, [9, 40])) rfl) (hl20.lt (a := 121) (by decide)) (hl20.T (a := 121) (p := (9, 45)) 43 rfl rfl) (by decide) rfl) ?_
  obtain ⟨hc21, h⟩ := ite_so h
  obtain ⟨s22, hs23, h⟩ := nx_so h
  refine Q.is hs23 rfl (gI_of zm209 (e := (58, 1, .iastore, [])) rfl) (hl20.lt (a := 134) (by decide)) (by decide) (hl20.T (a := 134) (p := (100, 1152)) 56 rfl rfl) hc21 ?_
  have hl24 : Ly tt cc s22 := by rw [hs23]; exact hl20.wId (by decide)
  refine Q.run zm209 1 (i' := 38) (ls' := [some (.ref 121), some (.int x1), some (.int r4), some (.int (1024 + r4))]) (st' := [.ref 121]) rfl ?_
  refine Q.map (A.gf (gI_of zm209 (e := (60, 3, .getfield 50, [9, 16])) rfl) (hl24.lt (a := 121) (by decide)) (hl24.T (a := 121) (p := (9, 45)) 43 rfl rfl) (by decide) (hl24.R 36 rfl)) ?_
  refine Q.run zm209 2 (i' := 41) (ls' := [some (.ref 121), some (.int x1), some (.int r4), some (.int (1024 + r4))]) (st' := [.ref 121, .int (1024 + r4), .ref 135]) rfl ?_
  refine Q.map (A.gf (gI_of zm209 (e := (65, 3, .getfield 200, [9, 41])) rfl) (hl24.lt (a := 121) (by decide)) (hl24.T (a := 121) (p := (9, 45)) 43 rfl rfl) (by decide) rfl) ?_
  obtain ⟨hc25, h⟩ := ite_so h
  obtain ⟨s26, hs27, h⟩ := nx_so h
  refine Q.is hs27 rfl (gI_of zm209 (e := (68, 1, .iastore, [])) rfl) (hl24.lt (a := 135) (by decide)) (by decide) (hl24.T (a := 135) (p := (100, 1152)) 57 rfl rfl) hc25 ?_
  have hl28 : Ly tt cc s26 := by rw [hs27]; exact hl24.wId (by decide)
  refine Q.run zm209 2 (i' := 45) (ls' := [some (.ref 121), some (.int x1), some (.int r4), some (.int (1024 + r4))]) (st' := [.int r4, .ref 121]) rfl ?_
  obtain ⟨s31, hc30, h⟩ := bu_so h
  have hq29 : Q 2 sio tt cc d 194 0 [some (.ref 121), some (.int r4)] [] s26 (.inl none, s31) := dt194 (by omega) hl28  hc30
  refine Q.callV (gC_vi zm209 (show zM209.2.2.2.2.2[45]? = some (71, 3, .invokevirtual 161, [0, 194, 1, 9]) from rfl) zm194 (hl28.lt (a := 121) (by decide)) (hl28.T (a := 121) (p := (9, 45)) 43 rfl rfl) rfl (show aCr 1 121 [.int r4, .ref 121] 2 = some ([some (.ref 121), some (.int r4)], []) from rfl)) hq29 ?_
  refine Q.run zm209 2 (i' := 48) (ls' := [some (.ref 121), some (.int x1), some (.int r4), some (.int (1024 + r4))]) (st' := [.int r4, .ref 121]) rfl ?_
  obtain ⟨s32, hs33, h⟩ := nx_so h
  refine Q.pf hs33 rfl (gI_of zm209 (e := (76, 3, .putfield 213, [9, 34, 0])) rfl) (hq29.1.lt (a := 121) (by decide)) (by decide) (hq29.1.T (a := 121) (p := (9, 45)) 43 rfl rfl) (by decide) rfl rfl ?_
  have hl34 : Ly tt cc s32 := by rw [hs33]; exact hq29.1.wId (by decide)
  cases h
  exact Q.ret (A.rv zm209 (show zM209.2.2.2.2.2[49]? = some (79, 1, .return_, []) from rfl) rfl) hl34
/-! 206 FormulaTreesModel.readSheetCell(II)V -/
set_option maxRecDepth 100000 in
theorem zm206 : zP[206]? = some zM206 := rfl
def dm206 (x1 : Int32) (x2 : Int32) (s : aS) : Option (aS) :=
  if 0 ≤ x1 then
    nx (wI s 121 26 ((sI s 121 26) + 1)) fun s2 =>
    bu (dm207 s2) fun s7 =>
    if (sI s7 121 27) = 0 then
      bu (dm209 x1 s7) fun s11 =>
      some s11
    else
      some s7
  else
    bu (dm186 x2 s) fun s14 =>
    some s14
set_option maxRecDepth 100000 in
theorem dt206 {sio : Bool} {tt : Nat} {cc : Nat → Nat → Int32} {d : Nat} (hd : 3 ≤ d) {x1 : Int32} {x2 : Int32} {s : aS} (hl : Ly tt cc s) {o : aS} (h : dm206  x1 x2 s = some o) : Q 2 sio tt cc d 206 0 [some (.ref 121), some (.int x1), some (.int x2)] [] s (.inl none, o) := by
  unfold dm206 at h
  obtain ⟨d, rfl⟩ : ∃ e, d = e + 1 := ⟨d - 1, by omega⟩
  refine Q.run zm206 1 (i' := 1) (ls' := [some (.ref 121), some (.int x1), some (.int x2)]) (st' := [.int x1]) rfl ?_
  by_cases hc1 : 0 ≤ x1
  · rw [if_pos hc1] at h
    refine Q.map (A.zT (gI_of zm206 (e := (1, 3, .ifCond .ge 9, [6])) rfl) (decide_eq_true hc1)) ?_
    refine Q.run zm206 2 (i' := 8) (ls' := [some (.ref 121), some (.int x1), some (.int x2)]) (st' := [.ref 121, .ref 121]) rfl ?_
    refine Q.map (A.gf (gI_of zm206 (e := (12, 3, .getfield 138, [9, 26])) rfl) (hl.lt (a := 121) (by decide)) (hl.T (a := 121) (p := (9, 45)) 43 rfl rfl) (by decide) rfl) ?_
    refine Q.run zm206 2 (i' := 11) (ls' := [some (.ref 121), some (.int x1), some (.int x2)]) (st' := [.int ((sI s 121 26) + 1), .ref 121]) rfl ?_
    obtain ⟨s2, hs3, h⟩ := nx_so h
    refine Q.pf hs3 rfl (gI_of zm206 (e := (17, 3, .putfield 138, [9, 26, 0])) rfl) (hl.lt (a := 121) (by decide)) (by decide) (hl.T (a := 121) (p := (9, 45)) 43 rfl rfl) (by decide) rfl rfl ?_
    have hl4 : Ly tt cc s2 := by rw [hs3]; exact hl.wId (by decide)
    refine Q.run zm206 1 (i' := 13) (ls' := [some (.ref 121), some (.int x1), some (.int x2)]) (st' := [.ref 121]) rfl ?_
    obtain ⟨s7, hc6, h⟩ := bu_so h
    have hq5 : Q 2 sio tt cc d 207 0 [some (.ref 121), none] [] s2 (.inl none, s7) := dt207 (by omega) hl4  hc6
    refine Q.callV (gC_vi zm206 (show zM206.2.2.2.2.2[13]? = some (21, 3, .invokevirtual 216, [0, 207, 0, 9]) from rfl) zm207 (hl4.lt (a := 121) (by decide)) (hl4.T (a := 121) (p := (9, 45)) 43 rfl rfl) rfl (show aCr 0 121 [.ref 121] 2 = some ([some (.ref 121), none], []) from rfl)) hq5 ?_
    refine Q.run zm206 1 (i' := 15) (ls' := [some (.ref 121), some (.int x1), some (.int x2)]) (st' := [.ref 121]) rfl ?_
    refine Q.map (A.gf (gI_of zm206 (e := (25, 3, .getfield 134, [9, 27])) rfl) (hq5.1.lt (a := 121) (by decide)) (hq5.1.T (a := 121) (p := (9, 45)) 43 rfl rfl) (by decide) rfl) ?_
    by_cases hc8 : (sI s7 121 27) = 0
    · rw [if_pos hc8] at h
      refine Q.map (A.zF (gI_of zm206 (e := (28, 3, .ifCond .ne 8, [20])) rfl) (fun q => of_decide_eq_true q hc8)) ?_
      refine Q.run zm206 2 (i' := 19) (ls' := [some (.ref 121), some (.int x1), some (.int x2)]) (st' := [.int x1, .ref 121]) rfl ?_
      obtain ⟨s11, hc10, h⟩ := bu_so h
      have hq9 : Q 2 sio tt cc d 209 0 [some (.ref 121), some (.int x1), none, none] [] s7 (.inl none, s11) := dt209 (by omega) hq5.1  hc10
      refine Q.callV (gC_vi zm206 (show zM206.2.2.2.2.2[19]? = some (33, 3, .invokevirtual 231, [0, 209, 1, 9]) from rfl) zm209 (hq5.1.lt (a := 121) (by decide)) (hq5.1.T (a := 121) (p := (9, 45)) 43 rfl rfl) rfl (show aCr 1 121 [.int x1, .ref 121] 4 = some ([some (.ref 121), some (.int x1), none, none], []) from rfl)) hq9 ?_
      cases h
      exact Q.ret (A.rv zm206 (show zM206.2.2.2.2.2[20]? = some (36, 1, .return_, []) from rfl) rfl) hq9.1
    · rw [if_neg hc8] at h
      refine Q.map (A.zT (gI_of zm206 (e := (28, 3, .ifCond .ne 8, [20])) rfl) (decide_eq_true hc8)) ?_
      cases h
      exact Q.ret (A.rv zm206 (show zM206.2.2.2.2.2[20]? = some (36, 1, .return_, []) from rfl) rfl) hq5.1
  · rw [if_neg hc1] at h
    refine Q.map (A.zF (gI_of zm206 (e := (1, 3, .ifCond .ge 9, [6])) rfl) (fun q => hc1 (of_decide_eq_true q))) ?_
    refine Q.run zm206 2 (i' := 4) (ls' := [some (.ref 121), some (.int x1), some (.int x2)]) (st' := [.int x2, .ref 121]) rfl ?_
    obtain ⟨s14, hc13, h⟩ := bu_so h
    have hq12 : Q 2 sio tt cc d 186 0 [some (.ref 121), some (.int x2)] [] s (.inl none, s14) := dt186 (by omega) hl  hc13
    refine Q.callV (gC_vi zm206 (show zM206.2.2.2.2.2[4]? = some (6, 3, .invokevirtual 164, [0, 186, 1, 9]) from rfl) zm186 (hl.lt (a := 121) (by decide)) (hl.T (a := 121) (p := (9, 45)) 43 rfl rfl) rfl (show aCr 1 121 [.int x2, .ref 121] 2 = some ([some (.ref 121), some (.int x2)], []) from rfl)) hq12 ?_
    cases h
    exact Q.ret (A.rv zm206 (show zM206.2.2.2.2.2[5]? = some (9, 1, .return_, []) from rfl) rfl) hq12.1
/-! 205 FormulaTreesModel.readPrefix()V -/
set_option maxRecDepth 100000 in
theorem zm205 : zP[205]? = some zM205 := rfl
def dm205 (s : aS) : Option (aS) :=
  bu (dm202 39 s) fun s3 =>
  if (sI s3 121 27) = 0 then
    bu (dm176 (sI s3 121 26) s3) fun r7 =>
    if r7 = 33 then
      bu (dm177 147 0 (sI s3 121 38) s3) fun r11 =>
      bu (dm206 r11 (sI s 121 26) s3) fun s14 =>
      some s14
    else
      bu (dm186 (sI s3 121 26) s3) fun s17 =>
      some s17
  else
    some s3
set_option maxRecDepth 100000 in
theorem dt205 {sio : Bool} {tt : Nat} {cc : Nat → Nat → Int32} {d : Nat} (hd : 4 ≤ d) {s : aS} (hl : Ly tt cc s) {o : aS} (h : dm205  s = some o) : Q 2 sio tt cc d 205 0 [some (.ref 121), none] [] s (.inl none, o) := by
  unfold dm205 at h
  obtain ⟨d, rfl⟩ : ∃ e, d = e + 1 := ⟨d - 1, by omega⟩
  refine Q.run zm205 1 (i' := 1) (ls' := [some (.ref 121), none]) (st' := [.ref 121]) rfl ?_
  refine Q.map (A.gf (gI_of zm205 (e := (1, 3, .getfield 138, [9, 26])) rfl) (hl.lt (a := 121) (by decide)) (hl.T (a := 121) (p := (9, 45)) 43 rfl rfl) (by decide) rfl) ?_
  refine Q.run zm205 3 (i' := 5) (ls' := [some (.ref 121), some (.int (sI s 121 26))]) (st' := [.int 39, .ref 121]) rfl ?_
  obtain ⟨s3, hc2, h⟩ := bu_so h
  have hq1 : Q 2 sio tt cc d 202 0 [some (.ref 121), some (.int 39), none] [] s (.inl none, s3) := dt202 (by omega) hl  hc2
  refine Q.callV (gC_vi zm205 (show zM205.2.2.2.2.2[5]? = some (8, 3, .invokevirtual 177, [0, 202, 1, 9]) from rfl) zm202 (hl.lt (a := 121) (by decide)) (hl.T (a := 121) (p := (9, 45)) 43 rfl rfl) rfl (show aCr 1 121 [.int 39, .ref 121] 3 = some ([some (.ref 121), some (.int 39), none], []) from rfl)) hq1 ?_
  refine Q.run zm205 1 (i' := 7) (ls' := [some (.ref 121), some (.int (sI s 121 26))]) (st' := [.ref 121]) rfl ?_
  refine Q.map (A.gf (gI_of zm205 (e := (12, 3, .getfield 134, [9, 27])) rfl) (hq1.1.lt (a := 121) (by decide)) (hq1.1.T (a := 121) (p := (9, 45)) 43 rfl rfl) (by decide) rfl) ?_
  by_cases hc4 : (sI s3 121 27) = 0
  · rw [if_pos hc4] at h
    refine Q.map (A.zT (gI_of zm205 (e := (15, 3, .ifCond .eq 4, [10])) rfl) (decide_eq_true hc4)) ?_
    refine Q.run zm205 2 (i' := 12) (ls' := [some (.ref 121), some (.int (sI s 121 26))]) (st' := [.ref 121, .ref 121]) rfl ?_
    refine Q.map (A.gf (gI_of zm205 (e := (21, 3, .getfield 138, [9, 26])) rfl) (hq1.1.lt (a := 121) (by decide)) (hq1.1.T (a := 121) (p := (9, 45)) 43 rfl rfl) (by decide) rfl) ?_
    obtain ⟨r7, hc6, h⟩ := bu_so h
    have hq5 : Q 2 sio tt cc d 176 0 [some (.ref 121), some (.int (sI s3 121 26))] [] s3 (.inl (some (.int r7)), s3) := dt176 (by omega) hq1.1  hc6
    refine Q.callI (gC_vi zm205 (show zM205.2.2.2.2.2[13]? = some (24, 3, .invokevirtual 113, [0, 176, 1, 9]) from rfl) zm176 (hq1.1.lt (a := 121) (by decide)) (hq1.1.T (a := 121) (p := (9, 45)) 43 rfl rfl) rfl (show aCr 1 121 [.int (sI s3 121 26), .ref 121] 2 = some ([some (.ref 121), some (.int (sI s3 121 26))], []) from rfl)) hq5 ?_
    refine Q.run zm205 1 (i' := 15) (ls' := [some (.ref 121), some (.int (sI s 121 26))]) (st' := [.int 33, .int r7]) rfl ?_
    by_cases hc8 : r7 = 33
    · rw [if_pos hc8] at h
      refine Q.map (A.bT (gI_of zm205 (e := (29, 3, .if_icmp .eq 14, [21])) rfl) (decide_eq_true hc8)) ?_
      refine Q.run zm205 3 (i' := 24) (ls' := [some (.ref 121), some (.int (sI s 121 26))]) (st' := [.ref 121, .ref 121, .ref 121]) rfl ?_
      refine Q.map (A.gf (gI_of zm205 (e := (46, 3, .getfield 86, [9, 37])) rfl) (hq1.1.lt (a := 121) (by decide)) (hq1.1.T (a := 121) (p := (9, 45)) 43 rfl rfl) (by decide) (hq1.1.R 48 rfl)) ?_
      refine Q.run zm205 2 (i' := 27) (ls' := [some (.ref 121), some (.int (sI s 121 26))]) (st' := [.ref 121, .int 0, .ref 147, .ref 121, .ref 121]) rfl ?_
      refine Q.map (A.gf (gI_of zm205 (e := (51, 3, .getfield 174, [9, 38])) rfl) (hq1.1.lt (a := 121) (by decide)) (hq1.1.T (a := 121) (p := (9, 45)) 43 rfl rfl) (by decide) rfl) ?_
      obtain ⟨r11, hc10, h⟩ := bu_so h
      have hq9 : Q 2 sio tt cc d 177 0 [some (.ref 121), some (.ref 147), some (.int 0), some (.int (sI s3 121 38)), none, none, none] [] s3 (.inl (some (.int r11)), s3) := dt177 (by omega) hq1.1 (hq1.1.Kd (a := 147) (c := 100) (n := 256) 69 rfl rfl (by decide)) hc10
      refine Q.callI (gC_vi zm205 (show zM205.2.2.2.2.2[28]? = some (54, 3, .invokevirtual 120, [0, 177, 3, 9]) from rfl) zm177 (hq1.1.lt (a := 121) (by decide)) (hq1.1.T (a := 121) (p := (9, 45)) 43 rfl rfl) rfl (show aCr 3 121 [.int (sI s3 121 38), .int 0, .ref 147, .ref 121, .ref 121] 7 = some ([some (.ref 121), some (.ref 147), some (.int 0), some (.int (sI s3 121 38)), none, none, none], [.ref 121]) from rfl)) hq9 ?_
      refine Q.run zm205 1 (i' := 30) (ls' := [some (.ref 121), some (.int (sI s 121 26))]) (st' := [.int (sI s 121 26), .int r11, .ref 121]) rfl ?_
      obtain ⟨s14, hc13, h⟩ := bu_so h
      have hq12 : Q 2 sio tt cc d 206 0 [some (.ref 121), some (.int r11), some (.int (sI s 121 26))] [] s3 (.inl none, s14) := dt206 (by omega) hq1.1  hc13
      refine Q.callV (gC_vi zm205 (show zM205.2.2.2.2.2[30]? = some (58, 3, .invokevirtual 234, [0, 206, 2, 9]) from rfl) zm206 (hq1.1.lt (a := 121) (by decide)) (hq1.1.T (a := 121) (p := (9, 45)) 43 rfl rfl) rfl (show aCr 2 121 [.int (sI s 121 26), .int r11, .ref 121] 3 = some ([some (.ref 121), some (.int r11), some (.int (sI s 121 26))], []) from rfl)) hq12 ?_
      cases h
      exact Q.ret (A.rv zm205 (show zM205.2.2.2.2.2[31]? = some (61, 1, .return_, []) from rfl) rfl) hq12.1
    · rw [if_neg hc8] at h
      refine Q.map (A.bF (gI_of zm205 (e := (29, 3, .if_icmp .eq 14, [21])) rfl) (fun q => hc8 (of_decide_eq_true q))) ?_
      refine Q.run zm205 2 (i' := 18) (ls' := [some (.ref 121), some (.int (sI s 121 26))]) (st' := [.ref 121, .ref 121]) rfl ?_
      refine Q.map (A.gf (gI_of zm205 (e := (34, 3, .getfield 138, [9, 26])) rfl) (hq1.1.lt (a := 121) (by decide)) (hq1.1.T (a := 121) (p := (9, 45)) 43 rfl rfl) (by decide) rfl) ?_
      obtain ⟨s17, hc16, h⟩ := bu_so h
      have hq15 : Q 2 sio tt cc d 186 0 [some (.ref 121), some (.int (sI s3 121 26))] [] s3 (.inl none, s17) := dt186 (by omega) hq1.1  hc16
      refine Q.callV (gC_vi zm205 (show zM205.2.2.2.2.2[19]? = some (37, 3, .invokevirtual 164, [0, 186, 1, 9]) from rfl) zm186 (hq1.1.lt (a := 121) (by decide)) (hq1.1.T (a := 121) (p := (9, 45)) 43 rfl rfl) rfl (show aCr 1 121 [.int (sI s3 121 26), .ref 121] 2 = some ([some (.ref 121), some (.int (sI s3 121 26))], []) from rfl)) hq15 ?_
      refine Q.run zm205 1 (i' := 31) (ls' := [some (.ref 121), some (.int (sI s 121 26))]) (st' := []) rfl ?_
      cases h
      exact Q.ret (A.rv zm205 (show zM205.2.2.2.2.2[31]? = some (61, 1, .return_, []) from rfl) rfl) hq15.1
  · rw [if_neg hc4] at h
    refine Q.map (A.zF (gI_of zm205 (e := (15, 3, .ifCond .eq 4, [10])) rfl) (fun q => hc4 (of_decide_eq_true q))) ?_
    cases h
    exact Q.ret (A.rv zm205 (show zM205.2.2.2.2.2[9]? = some (18, 1, .return_, []) from rfl) rfl) hq1.1
/-! 211 FormulaTreesModel.goesOn(I)Z -/
set_option maxRecDepth 100000 in
theorem zm211 : zP[211]? = some zM211 := rfl
def dm211_9 : Option (Int32) :=
  some 1
set_option maxRecDepth 100000 in
theorem dt211_9 {sio : Bool} {tt : Nat} {cc : Nat → Nat → Int32} {d : Nat} (hd : 2 ≤ d) {x0 : Int32} {s : aS} (hl : Ly tt cc s) {o : Int32} (h : dm211_9   = some o) : Q 2 sio tt cc d 211 9 [some (.int x0)] [] s (.inl (some (.int o)), s) := by
  unfold dm211_9 at h
  obtain ⟨d, rfl⟩ : ∃ e, d = e + 1 := ⟨d - 1, by omega⟩
  refine Q.run zm211 2 (i' := 12) (ls' := [some (.int x0)]) (st' := [.int 1]) rfl ?_
  cases h
  exact Q.ret (A.ri zm211 (show zM211.2.2.2.2.2[12]? = some (25, 1, .ireturn, []) from rfl) rfl rfl) hl
def dm211 (x0 : Int32) : Option (Int32) :=
  bu (dm197 x0) fun r3 =>
  if r3 = 0 then
    bu (dm196 x0) fun r7 =>
    if r7 = 0 then
      if x0 = 46 then
        dm211_9 
      else
        some 0
    else
      dm211_9 
  else
    dm211_9 
set_option maxRecDepth 100000 in
theorem dt211 {sio : Bool} {tt : Nat} {cc : Nat → Nat → Int32} {d : Nat} (hd : 2 ≤ d) {x0 : Int32} {s : aS} (hl : Ly tt cc s) {o : Int32} (h : dm211  x0 = some o) : Q 2 sio tt cc d 211 0 [some (.int x0)] [] s (.inl (some (.int o)), s) := by
  unfold dm211 at h
  obtain ⟨d, rfl⟩ : ∃ e, d = e + 1 := ⟨d - 1, by omega⟩
  refine Q.run zm211 1 (i' := 1) (ls' := [some (.int x0)]) (st' := [.int x0]) rfl ?_
  obtain ⟨r3, hc2, h⟩ := bu_so h
  have hq1 : Q 2 sio tt cc d 197 0 [some (.int x0)] [] s (.inl (some (.int r3)), s) := dt197 (by omega) hl  hc2
  refine Q.callI (gC_st zm211 (show zM211.2.2.2.2.2[1]? = some (1, 3, .invokestatic 97, [0, 197, 1]) from rfl) zm197 (show aC 1 [.int x0] 1 = some ([some (.int x0)], []) from rfl)) hq1 ?_
  by_cases hc4 : r3 = 0
  · rw [if_pos hc4] at h
    refine Q.map (A.zF (gI_of zm211 (e := (4, 3, .ifCond .ne 16, [9])) rfl) (fun q => of_decide_eq_true q hc4)) ?_
    refine Q.run zm211 1 (i' := 4) (ls' := [some (.int x0)]) (st' := [.int x0]) rfl ?_
    obtain ⟨r7, hc6, h⟩ := bu_so h
    have hq5 : Q 2 sio tt cc d 196 0 [some (.int x0)] [] s (.inl (some (.int r7)), s) := dt196 (by omega) hl  hc6
    refine Q.callI (gC_st zm211 (show zM211.2.2.2.2.2[4]? = some (8, 3, .invokestatic 100, [0, 196, 1]) from rfl) zm196 (show aC 1 [.int x0] 1 = some ([some (.int x0)], []) from rfl)) hq5 ?_
    by_cases hc8 : r7 = 0
    · rw [if_pos hc8] at h
      refine Q.map (A.zF (gI_of zm211 (e := (11, 3, .ifCond .ne 9, [9])) rfl) (fun q => of_decide_eq_true q hc8)) ?_
      refine Q.run zm211 2 (i' := 8) (ls' := [some (.int x0)]) (st' := [.int 46, .int x0]) rfl ?_
      by_cases hc9 : x0 = 46
      · rw [if_pos hc9] at h
        refine Q.map (A.bF (gI_of zm211 (e := (17, 3, .if_icmp .ne 7, [11])) rfl) (fun q => of_decide_eq_true q hc9)) ?_
        exact dt211_9 hd hl  h
      · rw [if_neg hc9] at h
        refine Q.map (A.bT (gI_of zm211 (e := (17, 3, .if_icmp .ne 7, [11])) rfl) (decide_eq_true hc9)) ?_
        refine Q.run zm211 1 (i' := 12) (ls' := [some (.int x0)]) (st' := [.int 0]) rfl ?_
        cases h
        exact Q.ret (A.ri zm211 (show zM211.2.2.2.2.2[12]? = some (25, 1, .ireturn, []) from rfl) rfl rfl) hl
    · rw [if_neg hc8] at h
      refine Q.map (A.zT (gI_of zm211 (e := (11, 3, .ifCond .ne 9, [9])) rfl) (decide_eq_true hc8)) ?_
      exact dt211_9 hd hl  h
  · rw [if_neg hc4] at h
    refine Q.map (A.zT (gI_of zm211 (e := (4, 3, .ifCond .ne 16, [9])) rfl) (decide_eq_true hc4)) ?_
    exact dt211_9 hd hl  h
/-! 212 FormulaTreesModel.lettersOf(II)I -/
set_option maxRecDepth 100000 in
theorem zm212 : zP[212]? = some zM212 := rfl
def dm212_2 : Nat → Int32 → Int32 → Int32 → aS → Option (Int32)
  | 0, _, _, _, _ => none
  | n + 1, x1, x2, x3, s =>
    if x2 ≤ (x1 + x3) then
      some x3
    else
      if aB (x1 + x3) 256 then
        bu (dm198 (sI s 122 (jN (x1 + x3)))) fun r5 =>
        if r5 = 0 then
          some x3
        else
          dm212_2 n x1 x2 (x3 + 1) s
      else none
set_option maxRecDepth 100000 in
theorem dt212_2 {sio : Bool} {tt : Nat} {cc : Nat → Nat → Int32} {d : Nat} (hd : 1 ≤ d) : ∀ (n : Nat) {x1 : Int32} {x2 : Int32} {x3 : Int32} {s : aS} (_ : Ly tt cc s) {o : Int32} (_ : dm212_2  n x1 x2 x3 s = some o), Q 2 sio tt cc d 212 2 [some (.ref 121), some (.int x1), some (.int x2), some (.int x3)] [] s (.inl (some (.int o)), s) := by
  obtain ⟨d, rfl⟩ : ∃ e, d = e + 1 := ⟨d - 1, by omega⟩
  intro n
  induction n with
  | zero => intro x1 x2 x3 s hl o h; rw [dm212_2] at h; cases h
  | succ n ih =>
    intro x1 x2 x3 s hl o h
    rw [dm212_2] at h
    refine Q.run zm212 4 (i' := 6) (ls' := [some (.ref 121), some (.int x1), some (.int x2), some (.int x3)]) (st' := [.int x2, .int (x1 + x3)]) rfl ?_
    by_cases hc1 : x2 ≤ (x1 + x3)
    · rw [if_pos hc1] at h
      refine Q.map (A.bT (gI_of zm212 (e := (6, 3, .if_icmp .ge 23, [17])) rfl) (decide_eq_true hc1)) ?_
      refine Q.run zm212 1 (i' := 18) (ls' := [some (.ref 121), some (.int x1), some (.int x2), some (.int x3)]) (st' := [.int x3]) rfl ?_
      cases h
      exact Q.ret (A.ri zm212 (show zM212.2.2.2.2.2[18]? = some (30, 1, .ireturn, []) from rfl) rfl rfl) hl
    · rw [if_neg hc1] at h
      refine Q.map (A.bF (gI_of zm212 (e := (6, 3, .if_icmp .ge 23, [17])) rfl) (fun q => hc1 (of_decide_eq_true q))) ?_
      refine Q.run zm212 1 (i' := 8) (ls' := [some (.ref 121), some (.int x1), some (.int x2), some (.int x3)]) (st' := [.ref 121]) rfl ?_
      refine Q.map (A.gf (gI_of zm212 (e := (10, 3, .getfield 7, [9, 2])) rfl) (hl.lt (a := 121) (by decide)) (hl.T (a := 121) (p := (9, 45)) 43 rfl rfl) (by decide) (hl.R 23 rfl)) ?_
      refine Q.run zm212 3 (i' := 12) (ls' := [some (.ref 121), some (.int x1), some (.int x2), some (.int x3)]) (st' := [.int (x1 + x3), .ref 122]) rfl ?_
      obtain ⟨hc2, h⟩ := ite_so h
      refine Q.map (A.ia (gI_of zm212 (e := (16, 1, .iaload, [])) rfl) (hl.lt (a := 122) (by decide)) (hl.T (a := 122) (p := (100, 256)) 44 rfl rfl) hc2) ?_
      obtain ⟨r5, hc4, h⟩ := bu_so h
      have hq3 : Q 2 sio tt cc d 198 0 [some (.int (sI s 122 (jN (x1 + x3))))] [] s (.inl (some (.int r5)), s) := dt198 (by omega) hl  hc4
      refine Q.callI (gC_st zm212 (show zM212.2.2.2.2.2[13]? = some (17, 3, .invokestatic 93, [0, 198, 1]) from rfl) zm198 (show aC 1 [.int (sI s 122 (jN (x1 + x3)))] 1 = some ([some (.int (sI s 122 (jN (x1 + x3))))], []) from rfl)) hq3 ?_
      by_cases hc6 : r5 = 0
      · rw [if_pos hc6] at h
        refine Q.map (A.zT (gI_of zm212 (e := (20, 3, .ifCond .eq 9, [17])) rfl) (decide_eq_true hc6)) ?_
        refine Q.run zm212 1 (i' := 18) (ls' := [some (.ref 121), some (.int x1), some (.int x2), some (.int x3)]) (st' := [.int x3]) rfl ?_
        cases h
        exact Q.ret (A.ri zm212 (show zM212.2.2.2.2.2[18]? = some (30, 1, .ireturn, []) from rfl) rfl rfl) hl
      · rw [if_neg hc6] at h
        refine Q.map (A.zF (gI_of zm212 (e := (20, 3, .ifCond .eq 9, [17])) rfl) (fun q => hc6 (of_decide_eq_true q))) ?_
        refine Q.run zm212 2 (i' := 2) (ls' := [some (.ref 121), some (.int x1), some (.int x2), some (.int (x3 + 1))]) (st' := []) rfl ?_
        exact ih hl  h
def dm212 (x1 : Int32) (x2 : Int32) (s : aS) : Option (Int32) :=
  dm212_2 5000 x1 x2 0 s
set_option maxRecDepth 100000 in
theorem dt212 {sio : Bool} {tt : Nat} {cc : Nat → Nat → Int32} {d : Nat} (hd : 1 ≤ d) {x1 : Int32} {x2 : Int32} {s : aS} (hl : Ly tt cc s) {o : Int32} (h : dm212  x1 x2 s = some o) : Q 2 sio tt cc d 212 0 [some (.ref 121), some (.int x1), some (.int x2), none] [] s (.inl (some (.int o)), s) := by
  unfold dm212 at h
  obtain ⟨d, rfl⟩ : ∃ e, d = e + 1 := ⟨d - 1, by omega⟩
  refine Q.run zm212 2 (i' := 2) (ls' := [some (.ref 121), some (.int x1), some (.int x2), some (.int 0)]) (st' := []) rfl ?_
  exact dt212_2 hd _ hl  h
