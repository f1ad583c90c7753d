section
/-! 203 FormulaTreesModel.readError()V -/
set_option maxRecDepth 100000 in
theorem zm203 : zP[203]? = some zM203 := rfl
def dm203_90 (x2 : Int32) (s : aS) : Option (aS) :=
  if (sI s 121 27) = 0 then
    bv (dm187 2 s) fun r5 s4 =>
    if aB (1024 + r5) 1152 then
      nx (wI s4 136 (jN (1024 + r5)) x2) fun s7 =>
      bu (dm194 r5 s7) fun s12 =>
      some s12
    else none
  else
    some s
set_option maxRecDepth 100000 in
theorem dt203_90 {sio : Bool} {tt : Nat} {cc : Nat → Nat → Int32} {d : Nat} (hd : 1 ≤ d) {x2 : Int32} {x1 : Int32} {g3 : Option Value} {g4 : Option Value} {g5 : Option Value} {g6 : Option Value} {g7 : Option Value} {s : aS} (hl : Ly tt cc s) {o : aS} (h : dm203_90  x2 s = some o) : Q 2 sio tt cc d 203 90 [some (.ref 121), some (.int x1), some (.int x2), g3, g4, g5, g6, g7] [] s (.inl none, o) := by
  unfold dm203_90 at h
  obtain ⟨d, rfl⟩ : ∃ e, d = e + 1 := ⟨d - 1, by omega⟩
  refine Q.run zm203 1 (i' := 91) (ls' := [some (.ref 121), some (.int x1), some (.int x2), g3, g4, g5, g6, g7]) (st' := [.ref 121]) rfl ?_
  refine Q.map (A.gf (gI_of zm203 (e := (180, 3, .getfield 134, [9, 27])) rfl) (hl.lt (a := 121) (by decide)) (hl.T (a := 121) (p := (9, 45)) 43 rfl rfl) (by decide) rfl) ?_
  by_cases hc1 : (sI s 121 27) = 0
  · rw [if_pos hc1] at h
    refine Q.map (A.zT (gI_of zm203 (e := (183, 3, .ifCond .eq 4, [94])) rfl) (decide_eq_true hc1)) ?_
    refine Q.run zm203 2 (i' := 96) (ls' := [some (.ref 121), some (.int x1), some (.int x2), g3, g4, g5, g6, g7]) (st' := [.int 2, .ref 121]) rfl ?_
    obtain ⟨r5, s4, hc3, h⟩ := bv_so h
    have hq2 : Q 2 sio tt cc d 187 0 [some (.ref 121), some (.int 2), none, none] [] s (.inl (some (.int r5)), s4) := dt187 (by omega) hl  hc3
    refine Q.callI (gC_vi zm203 (show zM203.2.2.2.2.2[96]? = some (189, 3, .invokevirtual 167, [0, 187, 1, 9]) from rfl) zm187 (hl.lt (a := 121) (by decide)) (hl.T (a := 121) (p := (9, 45)) 43 rfl rfl) rfl (show aCr 1 121 [.int 2, .ref 121] 4 = some ([some (.ref 121), some (.int 2), none, none], []) from rfl)) hq2 ?_
    refine Q.run zm203 2 (i' := 99) (ls' := [some (.ref 121), some (.int x1), some (.int x2), some (.int r5), g4, g5, g6, g7]) (st' := [.ref 121]) rfl ?_
    refine Q.map (A.gf (gI_of zm203 (e := (194, 3, .getfield 53, [9, 17])) rfl) (hq2.1.lt (a := 121) (by decide)) (hq2.1.T (a := 121) (p := (9, 45)) 43 rfl rfl) (by decide) (hq2.1.R 37 rfl)) ?_
    refine Q.run zm203 4 (i' := 104) (ls' := [some (.ref 121), some (.int x1), some (.int x2), some (.int r5), g4, g5, g6, g7]) (st' := [.int x2, .int (1024 + r5), .ref 136]) rfl ?_
    obtain ⟨hc6, h⟩ := ite_so h
    obtain ⟨s7, hs8, h⟩ := nx_so h
    refine Q.is hs8 rfl (gI_of zm203 (e := (203, 1, .iastore, [])) rfl) (hq2.1.lt (a := 136) (by decide)) (by decide) (hq2.1.T (a := 136) (p := (100, 1152)) 58 rfl rfl) hc6 ?_
    have hl9 : Ly tt cc s7 := by rw [hs8]; exact hq2.1.wId (by decide)
    refine Q.run zm203 2 (i' := 107) (ls' := [some (.ref 121), some (.int x1), some (.int x2), some (.int r5), g4, g5, g6, g7]) (st' := [.int r5, .ref 121]) rfl ?_
    obtain ⟨s12, hc11, h⟩ := bu_so h
    have hq10 : Q 2 sio tt cc d 194 0 [some (.ref 121), some (.int r5)] [] s7 (.inl none, s12) := dt194 (by omega) hl9  hc11
    refine Q.callV (gC_vi zm203 (show zM203.2.2.2.2.2[107]? = some (206, 3, .invokevirtual 161, [0, 194, 1, 9]) from rfl) zm194 (hl9.lt (a := 121) (by decide)) (hl9.T (a := 121) (p := (9, 45)) 43 rfl rfl) rfl (show aCr 1 121 [.int r5, .ref 121] 2 = some ([some (.ref 121), some (.int r5)], []) from rfl)) hq10 ?_
    cases h
    exact Q.ret (A.rv zm203 (show zM203.2.2.2.2.2[108]? = some (209, 1, .return_, []) from rfl) rfl) hq10.1
  · rw [if_neg hc1] at h
    refine Q.map (A.zF (gI_of zm203 (e := (183, 3, .ifCond .eq 4, [94])) rfl) (fun q => hc1 (of_decide_eq_true q))) ?_
    cases h
    exact Q.ret (A.rv zm203 (show zM203.2.2.2.2.2[93]? = some (186, 1, .return_, []) from rfl) rfl) hl
def dm203_89 (k5 : Int32 → Int32 → aS → Option (aS)) (x1 : Int32) (x2 : Int32) (s : aS) : Option (aS) :=
  k5 x1 x2 s
set_option maxRecDepth 100000 in
theorem dt203_89 {sio : Bool} {tt : Nat} {cc : Nat → Nat → Int32} {d : Nat} (hd : 1 ≤ d) {k5 : Int32 → Int32 → aS → Option (aS)} (hk5 : ∀ {x1 : Int32} {x2 : Int32} {g3 : Option Value} {g4 : Option Value} {g5 : Option Value} {g6 : Option Value} {g7 : Option Value} {s : aS}, Ly tt cc s → ∀ {o : aS}, k5 x1 x2 s = some o → Q 2 sio tt cc d 203 5 [some (.ref 121), some (.int x1), some (.int x2), g3, g4, g5, g6, g7] [] s (.inl none, o)) {x1 : Int32} {x2 : Int32} {x3 : Int32} {x4 : Int32} {x5 : Int32} {g6 : Option Value} {g7 : Option Value} {s : aS} (hl : Ly tt cc s) {o : aS} (h : dm203_89 k5 x1 x2 s = some o) : Q 2 sio tt cc d 203 89 [some (.ref 121), some (.int x1), some (.int x2), some (.int x3), some (.int x4), some (.int x5), g6, g7] [] s (.inl none, o) := by
  unfold dm203_89 at h
  obtain ⟨d, rfl⟩ : ∃ e, d = e + 1 := ⟨d - 1, by omega⟩
  refine Q.run zm203 1 (i' := 5) (ls' := [some (.ref 121), some (.int x1), some (.int x2), some (.int x3), some (.int x4), some (.int x5), g6, g7]) (st' := []) rfl ?_
  exact hk5 hl  h
def dm203_73 (k5 : Int32 → Int32 → aS → Option (aS)) (k19 : Int32 → Int32 → Int32 → Int32 → Int32 → aS → Option (aS)) (x1 : Int32) (x3 : Int32) (x4 : Int32) (x5 : Int32) (y0 : Int32) (s : aS) : Option (aS) :=
  k19 x1 y0 x3 x4 (x5 + 1) s
set_option maxRecDepth 100000 in
theorem dt203_73 {sio : Bool} {tt : Nat} {cc : Nat → Nat → Int32} {d : Nat} (hd : 1 ≤ d) {k5 : Int32 → Int32 → aS → Option (aS)} (hk5 : ∀ {x1 : Int32} {x2 : Int32} {g3 : Option Value} {g4 : Option Value} {g5 : Option Value} {g6 : Option Value} {g7 : Option Value} {s : aS}, Ly tt cc s → ∀ {o : aS}, k5 x1 x2 s = some o → Q 2 sio tt cc d 203 5 [some (.ref 121), some (.int x1), some (.int x2), g3, g4, g5, g6, g7] [] s (.inl none, o)) {k19 : Int32 → Int32 → Int32 → Int32 → Int32 → aS → Option (aS)} (hk19 : ∀ {x1 : Int32} {x2 : Int32} {x3 : Int32} {x4 : Int32} {x5 : Int32} {g6 : Option Value} {g7 : Option Value} {s : aS}, Ly tt cc s → ∀ {o : aS}, k19 x1 x2 x3 x4 x5 s = some o → Q 2 sio tt cc d 203 19 [some (.ref 121), some (.int x1), some (.int x2), some (.int x3), some (.int x4), some (.int x5), g6, g7] [] s (.inl none, o)) {x1 : Int32} {x3 : Int32} {x4 : Int32} {x5 : Int32} {y0 : Int32} {x2 : Int32} {x6 : Int32} {x7 : Int32} {s : aS} (hl : Ly tt cc s) {o : aS} (h : dm203_73 k5 k19 x1 x3 x4 x5 y0 s = some o) : Q 2 sio tt cc d 203 73 [some (.ref 121), some (.int x1), some (.int x2), some (.int x3), some (.int x4), some (.int x5), some (.int x6), some (.int x7)] [.int y0] s (.inl none, o) := by
  unfold dm203_73 at h
  obtain ⟨d, rfl⟩ : ∃ e, d = e + 1 := ⟨d - 1, by omega⟩
  refine Q.run zm203 3 (i' := 19) (ls' := [some (.ref 121), some (.int x1), some (.int y0), some (.int x3), some (.int x4), some (.int (x5 + 1)), some (.int x6), some (.int x7)]) (st' := []) rfl ?_
  exact hk19 hl  h
def dm203_51 (k5 : Int32 → Int32 → aS → Option (aS)) (k19 : Int32 → Int32 → Int32 → Int32 → Int32 → aS → Option (aS)) (k33 : Int32 → Int32 → Int32 → Int32 → Int32 → Int32 → Int32 → aS → Option (aS)) (x1 : Int32) (x2 : Int32) (x3 : Int32) (x4 : Int32) (x5 : Int32) (x7 : Int32) (y0 : Int32) (s : aS) : Option (aS) :=
  k33 x1 x2 x3 x4 x5 y0 (x7 + 1) s
set_option maxRecDepth 100000 in
theorem dt203_51 {sio : Bool} {tt : Nat} {cc : Nat → Nat → Int32} {d : Nat} (hd : 1 ≤ d) {k5 : Int32 → Int32 → aS → Option (aS)} (hk5 : ∀ {x1 : Int32} {x2 : Int32} {g3 : Option Value} {g4 : Option Value} {g5 : Option Value} {g6 : Option Value} {g7 : Option Value} {s : aS}, Ly tt cc s → ∀ {o : aS}, k5 x1 x2 s = some o → Q 2 sio tt cc d 203 5 [some (.ref 121), some (.int x1), some (.int x2), g3, g4, g5, g6, g7] [] s (.inl none, o)) {k19 : Int32 → Int32 → Int32 → Int32 → Int32 → aS → Option (aS)} (hk19 : ∀ {x1 : Int32} {x2 : Int32} {x3 : Int32} {x4 : Int32} {x5 : Int32} {g6 : Option Value} {g7 : Option Value} {s : aS}, Ly tt cc s → ∀ {o : aS}, k19 x1 x2 x3 x4 x5 s = some o → Q 2 sio tt cc d 203 19 [some (.ref 121), some (.int x1), some (.int x2), some (.int x3), some (.int x4), some (.int x5), g6, g7] [] s (.inl none, o)) {k33 : Int32 → Int32 → Int32 → Int32 → Int32 → Int32 → Int32 → aS → Option (aS)} (hk33 : ∀ {x1 : Int32} {x2 : Int32} {x3 : Int32} {x4 : Int32} {x5 : Int32} {x6 : Int32} {x7 : Int32} {s : aS}, Ly tt cc s → ∀ {o : aS}, k33 x1 x2 x3 x4 x5 x6 x7 s = some o → Q 2 sio tt cc d 203 33 [some (.ref 121), some (.int x1), some (.int x2), some (.int x3), some (.int x4), some (.int x5), some (.int x6), some (.int x7)] [] s (.inl none, o)) {x1 : Int32} {x2 : Int32} {x3 : Int32} {x4 : Int32} {x5 : Int32} {x7 : Int32} {y0 : Int32} {x6 : Int32} {s : aS} (hl : Ly tt cc s) {o : aS} (h : dm203_51 k5 k19 k33 x1 x2 x3 x4 x5 x7 y0 s = some o) : Q 2 sio tt cc d 203 51 [some (.ref 121), some (.int x1), some (.int x2), some (.int x3), some (.int x4), some (.int x5), some (.int x6), some (.int x7)] [.int y0] s (.inl none, o) := by
  unfold dm203_51 at h
  obtain ⟨d, rfl⟩ : ∃ e, d = e + 1 := ⟨d - 1, by omega⟩
  refine Q.run zm203 3 (i' := 33) (ls' := [some (.ref 121), some (.int x1), some (.int x2), some (.int x3), some (.int x4), some (.int x5), some (.int y0), some (.int (x7 + 1))]) (st' := []) rfl ?_
  exact hk33 hl  h
def dm203_72 (k5 : Int32 → Int32 → aS → Option (aS)) (k19 : Int32 → Int32 → Int32 → Int32 → Int32 → aS → Option (aS)) (x1 : Int32) (x2 : Int32) (x3 : Int32) (x4 : Int32) (x5 : Int32) (s : aS) : Option (aS) :=
  dm203_73 k5 k19 x1 x3 x4 x5 x2 s
set_option maxRecDepth 100000 in
theorem dt203_72 {sio : Bool} {tt : Nat} {cc : Nat → Nat → Int32} {d : Nat} (hd : 1 ≤ d) {k5 : Int32 → Int32 → aS → Option (aS)} (hk5 : ∀ {x1 : Int32} {x2 : Int32} {g3 : Option Value} {g4 : Option Value} {g5 : Option Value} {g6 : Option Value} {g7 : Option Value} {s : aS}, Ly tt cc s → ∀ {o : aS}, k5 x1 x2 s = some o → Q 2 sio tt cc d 203 5 [some (.ref 121), some (.int x1), some (.int x2), g3, g4, g5, g6, g7] [] s (.inl none, o)) {k19 : Int32 → Int32 → Int32 → Int32 → Int32 → aS → Option (aS)} (hk19 : ∀ {x1 : Int32} {x2 : Int32} {x3 : Int32} {x4 : Int32} {x5 : Int32} {g6 : Option Value} {g7 : Option Value} {s : aS}, Ly tt cc s → ∀ {o : aS}, k19 x1 x2 x3 x4 x5 s = some o → Q 2 sio tt cc d 203 19 [some (.ref 121), some (.int x1), some (.int x2), some (.int x3), some (.int x4), some (.int x5), g6, g7] [] s (.inl none, o)) {x1 : Int32} {x2 : Int32} {x3 : Int32} {x4 : Int32} {x5 : Int32} {x6 : Int32} {x7 : Int32} {s : aS} (hl : Ly tt cc s) {o : aS} (h : dm203_72 k5 k19 x1 x2 x3 x4 x5 s = some o) : Q 2 sio tt cc d 203 72 [some (.ref 121), some (.int x1), some (.int x2), some (.int x3), some (.int x4), some (.int x5), some (.int x6), some (.int x7)] [] s (.inl none, o) := by
  unfold dm203_72 at h
  obtain ⟨d, rfl⟩ : ∃ e, d = e + 1 := ⟨d - 1, by omega⟩
  refine Q.run zm203 1 (i' := 73) (ls' := [some (.ref 121), some (.int x1), some (.int x2), some (.int x3), some (.int x4), some (.int x5), some (.int x6), some (.int x7)]) (st' := [.int x2]) rfl ?_
  exact dt203_73 hd hk5 hk19 hl  h
def dm203_50 (k5 : Int32 → Int32 → aS → Option (aS)) (k19 : Int32 → Int32 → Int32 → Int32 → Int32 → aS → Option (aS)) (k33 : Int32 → Int32 → Int32 → Int32 → Int32 → Int32 → Int32 → aS → Option (aS)) (x1 : Int32) (x2 : Int32) (x3 : Int32) (x4 : Int32) (x5 : Int32) (x7 : Int32) (s : aS) : Option (aS) :=
  dm203_51 k5 k19 k33 x1 x2 x3 x4 x5 x7 0 s
set_option maxRecDepth 100000 in
theorem dt203_50 {sio : Bool} {tt : Nat} {cc : Nat → Nat → Int32} {d : Nat} (hd : 1 ≤ d) {k5 : Int32 → Int32 → aS → Option (aS)} (hk5 : ∀ {x1 : Int32} {x2 : Int32} {g3 : Option Value} {g4 : Option Value} {g5 : Option Value} {g6 : Option Value} {g7 : Option Value} {s : aS}, Ly tt cc s → ∀ {o : aS}, k5 x1 x2 s = some o → Q 2 sio tt cc d 203 5 [some (.ref 121), some (.int x1), some (.int x2), g3, g4, g5, g6, g7] [] s (.inl none, o)) {k19 : Int32 → Int32 → Int32 → Int32 → Int32 → aS → Option (aS)} (hk19 : ∀ {x1 : Int32} {x2 : Int32} {x3 : Int32} {x4 : Int32} {x5 : Int32} {g6 : Option Value} {g7 : Option Value} {s : aS}, Ly tt cc s → ∀ {o : aS}, k19 x1 x2 x3 x4 x5 s = some o → Q 2 sio tt cc d 203 19 [some (.ref 121), some (.int x1), some (.int x2), some (.int x3), some (.int x4), some (.int x5), g6, g7] [] s (.inl none, o)) {k33 : Int32 → Int32 → Int32 → Int32 → Int32 → Int32 → Int32 → aS → Option (aS)} (hk33 : ∀ {x1 : Int32} {x2 : Int32} {x3 : Int32} {x4 : Int32} {x5 : Int32} {x6 : Int32} {x7 : Int32} {s : aS}, Ly tt cc s → ∀ {o : aS}, k33 x1 x2 x3 x4 x5 x6 x7 s = some o → Q 2 sio tt cc d 203 33 [some (.ref 121), some (.int x1), some (.int x2), some (.int x3), some (.int x4), some (.int x5), some (.int x6), some (.int x7)] [] s (.inl none, o)) {x1 : Int32} {x2 : Int32} {x3 : Int32} {x4 : Int32} {x5 : Int32} {x7 : Int32} {x6 : Int32} {s : aS} (hl : Ly tt cc s) {o : aS} (h : dm203_50 k5 k19 k33 x1 x2 x3 x4 x5 x7 s = some o) : Q 2 sio tt cc d 203 50 [some (.ref 121), some (.int x1), some (.int x2), some (.int x3), some (.int x4), some (.int x5), some (.int x6), some (.int x7)] [] s (.inl none, o) := by
  unfold dm203_50 at h
  obtain ⟨d, rfl⟩ : ∃ e, d = e + 1 := ⟨d - 1, by omega⟩
  refine Q.run zm203 1 (i' := 51) (ls' := [some (.ref 121), some (.int x1), some (.int x2), some (.int x3), some (.int x4), some (.int x5), some (.int x6), some (.int x7)]) (st' := [.int 0]) rfl ?_
  exact dt203_51 hd hk5 hk19 hk33 hl  h
def dm203_61 (k5 : Int32 → Int32 → aS → Option (aS)) (k19 : Int32 → Int32 → Int32 → Int32 → Int32 → aS → Option (aS)) (x1 : Int32) (x2 : Int32) (x3 : Int32) (x5 : Int32) (x6 : Int32) (y0 : Int32) (s : aS) : Option (aS) :=
  if x6 = 0 then
    dm203_72 k5 k19 x1 x2 x3 y0 x5 s
  else
    bu (dm204 x5 (x3 + 1)) fun r4 =>
    if r4 = 0 then
      dm203_73 k5 k19 x1 x3 y0 x5 x5 s
    else
      dm203_72 k5 k19 x1 x2 x3 y0 x5 s
set_option maxRecDepth 100000 in
theorem dt203_61 {sio : Bool} {tt : Nat} {cc : Nat → Nat → Int32} {d : Nat} (hd : 1 ≤ d) {k5 : Int32 → Int32 → aS → Option (aS)} (hk5 : ∀ {x1 : Int32} {x2 : Int32} {g3 : Option Value} {g4 : Option Value} {g5 : Option Value} {g6 : Option Value} {g7 : Option Value} {s : aS}, Ly tt cc s → ∀ {o : aS}, k5 x1 x2 s = some o → Q 2 sio tt cc d 203 5 [some (.ref 121), some (.int x1), some (.int x2), g3, g4, g5, g6, g7] [] s (.inl none, o)) {k19 : Int32 → Int32 → Int32 → Int32 → Int32 → aS → Option (aS)} (hk19 : ∀ {x1 : Int32} {x2 : Int32} {x3 : Int32} {x4 : Int32} {x5 : Int32} {g6 : Option Value} {g7 : Option Value} {s : aS}, Ly tt cc s → ∀ {o : aS}, k19 x1 x2 x3 x4 x5 s = some o → Q 2 sio tt cc d 203 19 [some (.ref 121), some (.int x1), some (.int x2), some (.int x3), some (.int x4), some (.int x5), g6, g7] [] s (.inl none, o)) {x1 : Int32} {x2 : Int32} {x3 : Int32} {x5 : Int32} {x6 : Int32} {y0 : Int32} {x4 : Int32} {x7 : Int32} {s : aS} (hl : Ly tt cc s) {o : aS} (h : dm203_61 k5 k19 x1 x2 x3 x5 x6 y0 s = some o) : Q 2 sio tt cc d 203 61 [some (.ref 121), some (.int x1), some (.int x2), some (.int x3), some (.int x4), some (.int x5), some (.int x6), some (.int x7)] [.int y0] s (.inl none, o) := by
  unfold dm203_61 at h
  obtain ⟨d, rfl⟩ : ∃ e, d = e + 1 := ⟨d - 1, by omega⟩
  refine Q.run zm203 2 (i' := 63) (ls' := [some (.ref 121), some (.int x1), some (.int x2), some (.int x3), some (.int y0), some (.int x5), some (.int x6), some (.int x7)]) (st' := [.int x6]) rfl ?_
  by_cases hc1 : x6 = 0
  · rw [if_pos hc1] at h
    refine Q.map (A.zT (gI_of zm203 (e := (123, 3, .ifCond .eq 19, [72])) rfl) (decide_eq_true hc1)) ?_
    exact dt203_72 hd hk5 hk19 hl  h
  · rw [if_neg hc1] at h
    refine Q.map (A.zF (gI_of zm203 (e := (123, 3, .ifCond .eq 19, [72])) rfl) (fun q => hc1 (of_decide_eq_true q))) ?_
    refine Q.run zm203 4 (i' := 68) (ls' := [some (.ref 121), some (.int x1), some (.int x2), some (.int x3), some (.int y0), some (.int x5), some (.int x6), some (.int x7)]) (st' := [.int (x3 + 1), .int x5]) rfl ?_
    obtain ⟨r4, hc3, h⟩ := bu_so h
    have hq2 : Q 2 sio tt cc d 204 0 [some (.int x5), some (.int (x3 + 1)), none, none, none] [] s (.inl (some (.int r4)), s) := dt204 (by omega) hl  hc3
    refine Q.callI (gC_st zm203 (show zM203.2.2.2.2.2[68]? = some (131, 3, .invokestatic 196, [0, 204, 2]) from rfl) zm204 (show aC 2 [.int (x3 + 1), .int x5] 5 = some ([some (.int x5), some (.int (x3 + 1)), none, none, none], []) from rfl)) hq2 ?_
    by_cases hc5 : r4 = 0
    · rw [if_pos hc5] at h
      refine Q.map (A.zF (gI_of zm203 (e := (134, 3, .ifCond .ne 8, [72])) rfl) (fun q => of_decide_eq_true q hc5)) ?_
      refine Q.run zm203 2 (i' := 73) (ls' := [some (.ref 121), some (.int x1), some (.int x2), some (.int x3), some (.int y0), some (.int x5), some (.int x6), some (.int x7)]) (st' := [.int x5]) rfl ?_
      exact dt203_73 hd hk5 hk19 hl  h
    · rw [if_neg hc5] at h
      refine Q.map (A.zT (gI_of zm203 (e := (134, 3, .ifCond .ne 8, [72])) rfl) (decide_eq_true hc5)) ?_
      exact dt203_72 hd hk5 hk19 hl  h
def dm203_58 (k5 : Int32 → Int32 → aS → Option (aS)) (k19 : Int32 → Int32 → Int32 → Int32 → Int32 → aS → Option (aS)) (x1 : Int32) (x2 : Int32) (x3 : Int32) (x5 : Int32) (x6 : Int32) (s : aS) : Option (aS) :=
  dm203_61 k5 k19 x1 x2 x3 x5 x6 1 s
set_option maxRecDepth 100000 in
theorem dt203_58 {sio : Bool} {tt : Nat} {cc : Nat → Nat → Int32} {d : Nat} (hd : 1 ≤ d) {k5 : Int32 → Int32 → aS → Option (aS)} (hk5 : ∀ {x1 : Int32} {x2 : Int32} {g3 : Option Value} {g4 : Option Value} {g5 : Option Value} {g6 : Option Value} {g7 : Option Value} {s : aS}, Ly tt cc s → ∀ {o : aS}, k5 x1 x2 s = some o → Q 2 sio tt cc d 203 5 [some (.ref 121), some (.int x1), some (.int x2), g3, g4, g5, g6, g7] [] s (.inl none, o)) {k19 : Int32 → Int32 → Int32 → Int32 → Int32 → aS → Option (aS)} (hk19 : ∀ {x1 : Int32} {x2 : Int32} {x3 : Int32} {x4 : Int32} {x5 : Int32} {g6 : Option Value} {g7 : Option Value} {s : aS}, Ly tt cc s → ∀ {o : aS}, k19 x1 x2 x3 x4 x5 s = some o → Q 2 sio tt cc d 203 19 [some (.ref 121), some (.int x1), some (.int x2), some (.int x3), some (.int x4), some (.int x5), g6, g7] [] s (.inl none, o)) {x1 : Int32} {x2 : Int32} {x3 : Int32} {x5 : Int32} {x6 : Int32} {x4 : Int32} {x7 : Int32} {s : aS} (hl : Ly tt cc s) {o : aS} (h : dm203_58 k5 k19 x1 x2 x3 x5 x6 s = some o) : Q 2 sio tt cc d 203 58 [some (.ref 121), some (.int x1), some (.int x2), some (.int x3), some (.int x4), some (.int x5), some (.int x6), some (.int x7)] [] s (.inl none, o) := by
  unfold dm203_58 at h
  obtain ⟨d, rfl⟩ : ∃ e, d = e + 1 := ⟨d - 1, by omega⟩
  refine Q.run zm203 2 (i' := 61) (ls' := [some (.ref 121), some (.int x1), some (.int x2), some (.int x3), some (.int x4), some (.int x5), some (.int x6), some (.int x7)]) (st' := [.int 1]) rfl ?_
  exact dt203_61 hd hk5 hk19 hl  h
def dm203_33 (k5 : Int32 → Int32 → aS → Option (aS)) (k19 : Int32 → Int32 → Int32 → Int32 → Int32 → aS → Option (aS)) : Nat → Int32 → Int32 → Int32 → Int32 → Int32 → Int32 → Int32 → aS → Option (aS)
  | 0, _, _, _, _, _, _, _, _ => none
  | n + 1, x1, x2, x3, x4, x5, x6, x7, s =>
    if x3 < x7 then
      if x4 = 0 then
        if x6 = 0 then
          dm203_61 k5 k19 x1 x2 x3 x5 x6 0 s
        else
          dm203_58 k5 k19 x1 x2 x3 x5 x6 s
      else
        dm203_58 k5 k19 x1 x2 x3 x5 x6 s
    else
      if x6 = 0 then
        dm203_50 k5 k19 (dm203_33 k5 k19 n) x1 x2 x3 x4 x5 x7 s
      else
        bu (dm204 x5 x7) fun r7 =>
        bu (dm176 (x1 + x7) s) fun r10 =>
        bu (dm178 r10) fun r13 =>
        if r7 = r13 then
          dm203_51 k5 k19 (dm203_33 k5 k19 n) x1 x2 x3 x4 x5 x7 1 s
        else
          dm203_50 k5 k19 (dm203_33 k5 k19 n) x1 x2 x3 x4 x5 x7 s
set_option maxRecDepth 100000 in
theorem dt203_33 {sio : Bool} {tt : Nat} {cc : Nat → Nat → Int32} {d : Nat} (hd : 1 ≤ d) {k5 : Int32 → Int32 → aS → Option (aS)} (hk5 : ∀ {x1 : Int32} {x2 : Int32} {g3 : Option Value} {g4 : Option Value} {g5 : Option Value} {g6 : Option Value} {g7 : Option Value} {s : aS}, Ly tt cc s → ∀ {o : aS}, k5 x1 x2 s = some o → Q 2 sio tt cc d 203 5 [some (.ref 121), some (.int x1), some (.int x2), g3, g4, g5, g6, g7] [] s (.inl none, o)) {k19 : Int32 → Int32 → Int32 → Int32 → Int32 → aS → Option (aS)} (hk19 : ∀ {x1 : Int32} {x2 : Int32} {x3 : Int32} {x4 : Int32} {x5 : Int32} {g6 : Option Value} {g7 : Option Value} {s : aS}, Ly tt cc s → ∀ {o : aS}, k19 x1 x2 x3 x4 x5 s = some o → Q 2 sio tt cc d 203 19 [some (.ref 121), some (.int x1), some (.int x2), some (.int x3), some (.int x4), some (.int x5), g6, g7] [] s (.inl none, o)) : ∀ (n : Nat) {x1 : Int32} {x2 : Int32} {x3 : Int32} {x4 : Int32} {x5 : Int32} {x6 : Int32} {x7 : Int32} {s : aS} (_ : Ly tt cc s) {o : aS} (_ : dm203_33 k5 k19 n x1 x2 x3 x4 x5 x6 x7 s = some o), Q 2 sio tt cc d 203 33 [some (.ref 121), some (.int x1), some (.int x2), some (.int x3), some (.int x4), some (.int x5), some (.int x6), some (.int x7)] [] s (.inl none, o) := by
  obtain ⟨d, rfl⟩ : ∃ e, d = e + 1 := ⟨d - 1, by omega⟩
  intro n
  induction n with
  | zero => intro x1 x2 x3 x4 x5 x6 x7 s hl o h; rw [dm203_33] at h; cases h
  | succ n ih =>
    intro x1 x2 x3 x4 x5 x6 x7 s hl o h
    rw [dm203_33] at h
    refine Q.run zm203 2 (i' := 35) (ls' := [some (.ref 121), some (.int x1), some (.int x2), some (.int x3), some (.int x4), some (.int x5), some (.int x6), some (.int x7)]) (st' := [.int x3, .int x7]) rfl ?_
    by_cases hc1 : x3 < x7
    · rw [if_pos hc1] at h
      refine Q.map (A.bT (gI_of zm203 (e := (62, 3, .if_icmp .gt 42, [54])) rfl) (decide_eq_true hc1)) ?_
      refine Q.run zm203 1 (i' := 55) (ls' := [some (.ref 121), some (.int x1), some (.int x2), some (.int x3), some (.int x4), some (.int x5), some (.int x6), some (.int x7)]) (st' := [.int x4]) rfl ?_
      by_cases hc2 : x4 = 0
      · rw [if_pos hc2] at h
        refine Q.map (A.zF (gI_of zm203 (e := (106, 3, .ifCond .ne 8, [58])) rfl) (fun q => of_decide_eq_true q hc2)) ?_
        refine Q.run zm203 1 (i' := 57) (ls' := [some (.ref 121), some (.int x1), some (.int x2), some (.int x3), some (.int x4), some (.int x5), some (.int x6), some (.int x7)]) (st' := [.int x6]) rfl ?_
        by_cases hc3 : x6 = 0
        · rw [if_pos hc3] at h
          refine Q.map (A.zT (gI_of zm203 (e := (111, 3, .ifCond .eq 7, [60])) rfl) (decide_eq_true hc3)) ?_
          refine Q.run zm203 1 (i' := 61) (ls' := [some (.ref 121), some (.int x1), some (.int x2), some (.int x3), some (.int x4), some (.int x5), some (.int x6), some (.int x7)]) (st' := [.int 0]) rfl ?_
          exact dt203_61 hd hk5 hk19 hl  h
        · rw [if_neg hc3] at h
          refine Q.map (A.zF (gI_of zm203 (e := (111, 3, .ifCond .eq 7, [60])) rfl) (fun q => hc3 (of_decide_eq_true q))) ?_
          exact dt203_58 hd hk5 hk19 hl  h
      · rw [if_neg hc2] at h
        refine Q.map (A.zT (gI_of zm203 (e := (106, 3, .ifCond .ne 8, [58])) rfl) (decide_eq_true hc2)) ?_
        exact dt203_58 hd hk5 hk19 hl  h
    · rw [if_neg hc1] at h
      refine Q.map (A.bF (gI_of zm203 (e := (62, 3, .if_icmp .gt 42, [54])) rfl) (fun q => hc1 (of_decide_eq_true q))) ?_
      refine Q.run zm203 1 (i' := 37) (ls' := [some (.ref 121), some (.int x1), some (.int x2), some (.int x3), some (.int x4), some (.int x5), some (.int x6), some (.int x7)]) (st' := [.int x6]) rfl ?_
      by_cases hc4 : x6 = 0
      · rw [if_pos hc4] at h
        refine Q.map (A.zT (gI_of zm203 (e := (67, 3, .ifCond .eq 28, [50])) rfl) (decide_eq_true hc4)) ?_
        exact dt203_50 hd hk5 hk19 ih hl  h
      · rw [if_neg hc4] at h
        refine Q.map (A.zF (gI_of zm203 (e := (67, 3, .ifCond .eq 28, [50])) rfl) (fun q => hc4 (of_decide_eq_true q))) ?_
        refine Q.run zm203 2 (i' := 40) (ls' := [some (.ref 121), some (.int x1), some (.int x2), some (.int x3), some (.int x4), some (.int x5), some (.int x6), some (.int x7)]) (st' := [.int x7, .int x5]) rfl ?_
        obtain ⟨r7, hc6, h⟩ := bu_so h
        have hq5 : Q 2 sio tt cc d 204 0 [some (.int x5), some (.int x7), none, none, none] [] s (.inl (some (.int r7)), s) := dt204 (by omega) hl  hc6
        refine Q.callI (gC_st zm203 (show zM203.2.2.2.2.2[40]? = some (74, 3, .invokestatic 196, [0, 204, 2]) from rfl) zm204 (show aC 2 [.int x7, .int x5] 5 = some ([some (.int x5), some (.int x7), none, none, none], []) from rfl)) hq5 ?_
        refine Q.run zm203 4 (i' := 45) (ls' := [some (.ref 121), some (.int x1), some (.int x2), some (.int x3), some (.int x4), some (.int x5), some (.int x6), some (.int x7)]) (st' := [.int (x1 + x7), .ref 121, .int r7]) rfl ?_
        obtain ⟨r10, hc9, h⟩ := bu_so h
        have hq8 : Q 2 sio tt cc d 176 0 [some (.ref 121), some (.int (x1 + x7))] [] s (.inl (some (.int r10)), s) := dt176 (by omega) hl  hc9
        refine Q.callI (gC_vi zm203 (show zM203.2.2.2.2.2[45]? = some (82, 3, .invokevirtual 113, [0, 176, 1, 9]) from rfl) zm176 (hl.lt (a := 121) (by decide)) (hl.T (a := 121) (p := (9, 45)) 43 rfl rfl) rfl (show aCr 1 121 [.int (x1 + x7), .ref 121, .int r7] 2 = some ([some (.ref 121), some (.int (x1 + x7))], [.int r7]) from rfl)) hq8 ?_
        obtain ⟨r13, hc12, h⟩ := bu_so h
        have hq11 : Q 2 sio tt cc d 178 0 [some (.int r10)] [] s (.inl (some (.int r13)), s) := dt178 (by omega) hl  hc12
        refine Q.callI (gC_st zm203 (show zM203.2.2.2.2.2[46]? = some (85, 3, .invokestatic 109, [0, 178, 1]) from rfl) zm178 (show aC 1 [.int r10, .int r7] 1 = some ([some (.int r10)], [.int r7]) from rfl)) hq11 ?_
        by_cases hc14 : r7 = r13
        · rw [if_pos hc14] at h
          refine Q.map (A.bF (gI_of zm203 (e := (88, 3, .if_icmp .ne 7, [50])) rfl) (fun q => of_decide_eq_true q hc14)) ?_
          refine Q.run zm203 2 (i' := 51) (ls' := [some (.ref 121), some (.int x1), some (.int x2), some (.int x3), some (.int x4), some (.int x5), some (.int x6), some (.int x7)]) (st' := [.int 1]) rfl ?_
          exact dt203_51 hd hk5 hk19 ih hl  h
        · rw [if_neg hc14] at h
          refine Q.map (A.bT (gI_of zm203 (e := (88, 3, .if_icmp .ne 7, [50])) rfl) (decide_eq_true hc14)) ?_
          exact dt203_50 hd hk5 hk19 ih hl  h
def dm203_30 (k5 : Int32 → Int32 → aS → Option (aS)) (k19 : Int32 → Int32 → Int32 → Int32 → Int32 → aS → Option (aS)) (x1 : Int32) (x2 : Int32) (x3 : Int32) (x4 : Int32) (x5 : Int32) (y0 : Int32) (s : aS) : Option (aS) :=
  dm203_33 k5 k19 5000 x1 x2 x3 x4 x5 y0 0 s
set_option maxRecDepth 100000 in
theorem dt203_30 {sio : Bool} {tt : Nat} {cc : Nat → Nat → Int32} {d : Nat} (hd : 1 ≤ d) {k5 : Int32 → Int32 → aS → Option (aS)} (hk5 : ∀ {x1 : Int32} {x2 : Int32} {g3 : Option Value} {g4 : Option Value} {g5 : Option Value} {g6 : Option Value} {g7 : Option Value} {s : aS}, Ly tt cc s → ∀ {o : aS}, k5 x1 x2 s = some o → Q 2 sio tt cc d 203 5 [some (.ref 121), some (.int x1), some (.int x2), g3, g4, g5, g6, g7] [] s (.inl none, o)) {k19 : Int32 → Int32 → Int32 → Int32 → Int32 → aS → Option (aS)} (hk19 : ∀ {x1 : Int32} {x2 : Int32} {x3 : Int32} {x4 : Int32} {x5 : Int32} {g6 : Option Value} {g7 : Option Value} {s : aS}, Ly tt cc s → ∀ {o : aS}, k19 x1 x2 x3 x4 x5 s = some o → Q 2 sio tt cc d 203 19 [some (.ref 121), some (.int x1), some (.int x2), some (.int x3), some (.int x4), some (.int x5), g6, g7] [] s (.inl none, o)) {x1 : Int32} {x2 : Int32} {x3 : Int32} {x4 : Int32} {x5 : Int32} {y0 : Int32} {g6 : Option Value} {g7 : Option Value} {s : aS} (hl : Ly tt cc s) {o : aS} (h : dm203_30 k5 k19 x1 x2 x3 x4 x5 y0 s = some o) : Q 2 sio tt cc d 203 30 [some (.ref 121), some (.int x1), some (.int x2), some (.int x3), some (.int x4), some (.int x5), g6, g7] [.int y0] s (.inl none, o) := by
  unfold dm203_30 at h
  obtain ⟨d, rfl⟩ : ∃ e, d = e + 1 := ⟨d - 1, by omega⟩
  refine Q.run zm203 3 (i' := 33) (ls' := [some (.ref 121), some (.int x1), some (.int x2), some (.int x3), some (.int x4), some (.int x5), some (.int y0), some (.int 0)]) (st' := []) rfl ?_
  exact dt203_33 hd hk5 hk19 _ hl  h
def dm203_19 (k5 : Int32 → Int32 → aS → Option (aS)) : Nat → Int32 → Int32 → Int32 → Int32 → Int32 → aS → Option (aS)
  | 0, _, _, _, _, _, _ => none
  | n + 1, x1, x2, x3, x4, x5, s =>
    if 8 ≤ x5 then
      if x4 = 0 then
        bu (dm186 (sI s 121 26) s) fun s5 =>
        dm203_89 k5 x1 x2 s5
      else
        nx (wI s 121 26 ((sI s 121 26) + 1)) fun s6 =>
        dm203_89 k5 x1 x2 s6
    else
      if (sI s 121 1) ≤ (sI s 121 26) then
        dm203_30 k5 (dm203_19 k5 n) x1 x2 x3 x4 x5 0 s
      else
        dm203_30 k5 (dm203_19 k5 n) x1 x2 x3 x4 x5 1 s
set_option maxRecDepth 100000 in
theorem dt203_19 {sio : Bool} {tt : Nat} {cc : Nat → Nat → Int32} {d : Nat} (hd : 1 ≤ d) {k5 : Int32 → Int32 → aS → Option (aS)} (hk5 : ∀ {x1 : Int32} {x2 : Int32} {g3 : Option Value} {g4 : Option Value} {g5 : Option Value} {g6 : Option Value} {g7 : Option Value} {s : aS}, Ly tt cc s → ∀ {o : aS}, k5 x1 x2 s = some o → Q 2 sio tt cc d 203 5 [some (.ref 121), some (.int x1), some (.int x2), g3, g4, g5, g6, g7] [] s (.inl none, o)) : ∀ (n : Nat) {x1 : Int32} {x2 : Int32} {x3 : Int32} {x4 : Int32} {x5 : Int32} {g6 : Option Value} {g7 : Option Value} {s : aS} (_ : Ly tt cc s) {o : aS} (_ : dm203_19 k5 n x1 x2 x3 x4 x5 s = some o), Q 2 sio tt cc d 203 19 [some (.ref 121), some (.int x1), some (.int x2), some (.int x3), some (.int x4), some (.int x5), g6, g7] [] s (.inl none, o) := by
  obtain ⟨d, rfl⟩ : ∃ e, d = e + 1 := ⟨d - 1, by omega⟩
  intro n
  induction n with
  | zero => intro x1 x2 x3 x4 x5 g6 g7 s hl o h; rw [dm203_19] at h; cases h
  | succ n ih =>
    intro x1 x2 x3 x4 x5 g6 g7 s hl o h
    rw [dm203_19] at h
    refine Q.run zm203 2 (i' := 21) (ls' := [some (.ref 121), some (.int x1), some (.int x2), some (.int x3), some (.int x4), some (.int x5), g6, g7]) (st' := [.int 8, .int x5]) rfl ?_
    by_cases hc1 : 8 ≤ x5
    · rw [if_pos hc1] at h
      refine Q.map (A.bT (gI_of zm203 (e := (35, 3, .if_icmp .ge 115, [76])) rfl) (decide_eq_true hc1)) ?_
      refine Q.run zm203 1 (i' := 77) (ls' := [some (.ref 121), some (.int x1), some (.int x2), some (.int x3), some (.int x4), some (.int x5), g6, g7]) (st' := [.int x4]) rfl ?_
      by_cases hc2 : x4 = 0
      · rw [if_pos hc2] at h
        refine Q.map (A.zT (gI_of zm203 (e := (152, 3, .ifCond .eq 16, [85])) rfl) (decide_eq_true hc2)) ?_
        refine Q.run zm203 2 (i' := 87) (ls' := [some (.ref 121), some (.int x1), some (.int x2), some (.int x3), some (.int x4), some (.int x5), g6, g7]) (st' := [.ref 121, .ref 121]) rfl ?_
        refine Q.map (A.gf (gI_of zm203 (e := (170, 3, .getfield 138, [9, 26])) rfl) (hl.lt (a := 121) (by decide)) (hl.T (a := 121) (p := (9, 45)) 43 rfl rfl) (by decide) rfl) ?_
        obtain ⟨s5, hc4, h⟩ := bu_so h
        have hq3 : Q 2 sio tt cc d 186 0 [some (.ref 121), some (.int (sI s 121 26))] [] s (.inl none, s5) := dt186 (by omega) hl  hc4
        refine Q.callV (gC_vi zm203 (show zM203.2.2.2.2.2[88]? = some (173, 3, .invokevirtual 164, [0, 186, 1, 9]) from rfl) zm186 (hl.lt (a := 121) (by decide)) (hl.T (a := 121) (p := (9, 45)) 43 rfl rfl) rfl (show aCr 1 121 [.int (sI s 121 26), .ref 121] 2 = some ([some (.ref 121), some (.int (sI s 121 26))], []) from rfl)) hq3 ?_
        exact dt203_89 hd hk5 hq3.1  h
      · rw [if_neg hc2] at h
        refine Q.map (A.zF (gI_of zm203 (e := (152, 3, .ifCond .eq 16, [85])) rfl) (fun q => hc2 (of_decide_eq_true q))) ?_
        refine Q.run zm203 2 (i' := 80) (ls' := [some (.ref 121), some (.int x1), some (.int x2), some (.int x3), some (.int x4), some (.int x5), g6, g7]) (st' := [.ref 121, .ref 121]) rfl ?_
        refine Q.map (A.gf (gI_of zm203 (e := (157, 3, .getfield 138, [9, 26])) rfl) (hl.lt (a := 121) (by decide)) (hl.T (a := 121) (p := (9, 45)) 43 rfl rfl) (by decide) rfl) ?_
        refine Q.run zm203 2 (i' := 83) (ls' := [some (.ref 121), some (.int x1), some (.int x2), some (.int x3), some (.int x4), some (.int x5), g6, g7]) (st' := [.int ((sI s 121 26) + 1), .ref 121]) rfl ?_
        obtain ⟨s6, hs7, h⟩ := nx_so h
        refine Q.pf hs7 rfl (gI_of zm203 (e := (162, 3, .putfield 138, [9, 26, 0])) rfl) (hl.lt (a := 121) (by decide)) (by decide) (hl.T (a := 121) (p := (9, 45)) 43 rfl rfl) (by decide) rfl rfl ?_
        have hl8 : Ly tt cc s6 := by rw [hs7]; exact hl.wId (by decide)
        refine Q.run zm203 1 (i' := 89) (ls' := [some (.ref 121), some (.int x1), some (.int x2), some (.int x3), some (.int x4), some (.int x5), g6, g7]) (st' := []) rfl ?_
        exact dt203_89 hd hk5 hl8  h
    · rw [if_neg hc1] at h
      refine Q.map (A.bF (gI_of zm203 (e := (35, 3, .if_icmp .ge 115, [76])) rfl) (fun q => hc1 (of_decide_eq_true q))) ?_
      refine Q.run zm203 1 (i' := 23) (ls' := [some (.ref 121), some (.int x1), some (.int x2), some (.int x3), some (.int x4), some (.int x5), g6, g7]) (st' := [.ref 121]) rfl ?_
      refine Q.map (A.gf (gI_of zm203 (e := (39, 3, .getfield 138, [9, 26])) rfl) (hl.lt (a := 121) (by decide)) (hl.T (a := 121) (p := (9, 45)) 43 rfl rfl) (by decide) rfl) ?_
      refine Q.run zm203 1 (i' := 25) (ls' := [some (.ref 121), some (.int x1), some (.int x2), some (.int x3), some (.int x4), some (.int x5), g6, g7]) (st' := [.ref 121, .int (sI s 121 26)]) rfl ?_
      refine Q.map (A.gf (gI_of zm203 (e := (43, 3, .getfield 103, [9, 1])) rfl) (hl.lt (a := 121) (by decide)) (hl.T (a := 121) (p := (9, 45)) 43 rfl rfl) (by decide) rfl) ?_
      by_cases hc9 : (sI s 121 1) ≤ (sI s 121 26)
      · rw [if_pos hc9] at h
        refine Q.map (A.bT (gI_of zm203 (e := (46, 3, .if_icmp .ge 7, [29])) rfl) (decide_eq_true hc9)) ?_
        refine Q.run zm203 1 (i' := 30) (ls' := [some (.ref 121), some (.int x1), some (.int x2), some (.int x3), some (.int x4), some (.int x5), g6, g7]) (st' := [.int 0]) rfl ?_
        exact dt203_30 hd hk5 ih hl  h
      · rw [if_neg hc9] at h
        refine Q.map (A.bF (gI_of zm203 (e := (46, 3, .if_icmp .ge 7, [29])) rfl) (fun q => hc9 (of_decide_eq_true q))) ?_
        refine Q.run zm203 2 (i' := 30) (ls' := [some (.ref 121), some (.int x1), some (.int x2), some (.int x3), some (.int x4), some (.int x5), g6, g7]) (st' := [.int 1]) rfl ?_
        exact dt203_30 hd hk5 ih hl  h
def dm203_5 : Nat → Int32 → Int32 → aS → Option (aS)
  | 0, _, _, _ => none
  | n + 1, x1, x2, s =>
    if x2 = 0 then
      if (sI s 121 27) = 0 then
        dm203_19 (dm203_5 n) 5000 x1 x2 ((sI s 121 26) - x1) 0 1 s
      else
        dm203_90 x2 s
    else
      dm203_90 x2 s
set_option maxRecDepth 100000 in
theorem dt203_5 {sio : Bool} {tt : Nat} {cc : Nat → Nat → Int32} {d : Nat} (hd : 1 ≤ d) : ∀ (n : Nat) {x1 : Int32} {x2 : Int32} {g3 : Option Value} {g4 : Option Value} {g5 : Option Value} {g6 : Option Value} {g7 : Option Value} {s : aS} (_ : Ly tt cc s) {o : aS} (_ : dm203_5  n x1 x2 s = some o), Q 2 sio tt cc d 203 5 [some (.ref 121), some (.int x1), some (.int x2), g3, g4, g5, g6, g7] [] s (.inl none, o) := by
  obtain ⟨d, rfl⟩ : ∃ e, d = e + 1 := ⟨d - 1, by omega⟩
  intro n
  induction n with
  | zero => intro x1 x2 g3 g4 g5 g6 g7 s hl o h; rw [dm203_5] at h; cases h
  | succ n ih =>
    intro x1 x2 g3 g4 g5 g6 g7 s hl o h
    rw [dm203_5] at h
    refine Q.run zm203 1 (i' := 6) (ls' := [some (.ref 121), some (.int x1), some (.int x2), g3, g4, g5, g6, g7]) (st' := [.int x2]) rfl ?_
    by_cases hc1 : x2 = 0
    · rw [if_pos hc1] at h
      refine Q.map (A.zF (gI_of zm203 (e := (8, 3, .ifCond .ne 171, [90])) rfl) (fun q => of_decide_eq_true q hc1)) ?_
      refine Q.run zm203 1 (i' := 8) (ls' := [some (.ref 121), some (.int x1), some (.int x2), g3, g4, g5, g6, g7]) (st' := [.ref 121]) rfl ?_
      refine Q.map (A.gf (gI_of zm203 (e := (12, 3, .getfield 134, [9, 27])) rfl) (hl.lt (a := 121) (by decide)) (hl.T (a := 121) (p := (9, 45)) 43 rfl rfl) (by decide) rfl) ?_
      by_cases hc2 : (sI s 121 27) = 0
      · rw [if_pos hc2] at h
        refine Q.map (A.zF (gI_of zm203 (e := (15, 3, .ifCond .ne 164, [90])) rfl) (fun q => of_decide_eq_true q hc2)) ?_
        refine Q.run zm203 1 (i' := 11) (ls' := [some (.ref 121), some (.int x1), some (.int x2), g3, g4, g5, g6, g7]) (st' := [.ref 121]) rfl ?_
        refine Q.map (A.gf (gI_of zm203 (e := (19, 3, .getfield 138, [9, 26])) rfl) (hl.lt (a := 121) (by decide)) (hl.T (a := 121) (p := (9, 45)) 43 rfl rfl) (by decide) rfl) ?_
        refine Q.run zm203 7 (i' := 19) (ls' := [some (.ref 121), some (.int x1), some (.int x2), some (.int ((sI s 121 26) - x1)), some (.int 0), some (.int 1), g6, g7]) (st' := []) rfl ?_
        exact dt203_19 hd ih _ hl  h
      · rw [if_neg hc2] at h
        refine Q.map (A.zT (gI_of zm203 (e := (15, 3, .ifCond .ne 164, [90])) rfl) (decide_eq_true hc2)) ?_
        exact dt203_90 hd hl  h
    · rw [if_neg hc1] at h
      refine Q.map (A.zT (gI_of zm203 (e := (8, 3, .ifCond .ne 171, [90])) rfl) (decide_eq_true hc1)) ?_
      exact dt203_90 hd hl  h
def dm203 (s : aS) : Option (aS) :=
  dm203_5 5000 (sI s 121 26) 0 s
set_option maxRecDepth 100000 in
theorem dt203 {sio : Bool} {tt : Nat} {cc : Nat → Nat → Int32} {d : Nat} (hd : 1 ≤ d) {s : aS} (hl : Ly tt cc s) {o : aS} (h : dm203  s = some o) : Q 2 sio tt cc d 203 0 [some (.ref 121), none, none, none, none, none, none, none] [] s (.inl none, o) := by
  unfold dm203 at h
  obtain ⟨d, rfl⟩ : ∃ e, d = e + 1 := ⟨d - 1, by omega⟩
  refine Q.run zm203 1 (i' := 1) (ls' := [some (.ref 121), none, none, none, none, none, none, none]) (st' := [.ref 121]) rfl ?_
  refine Q.map (A.gf (gI_of zm203 (e := (1, 3, .getfield 138, [9, 26])) rfl) (hl.lt (a := 121) (by decide)) (hl.T (a := 121) (p := (9, 45)) 43 rfl rfl) (by decide) rfl) ?_
  refine Q.run zm203 3 (i' := 5) (ls' := [some (.ref 121), some (.int (sI s 121 26)), some (.int 0), none, none, none, none, none]) (st' := []) rfl ?_
  exact dt203_5 hd _ hl  h
/-! 208 FormulaTreesModel.readRow()V -/
set_option maxRecDepth 100000 in
theorem zm208 : zP[208]? = some zM208 := rfl
def dm208_35 : Nat → aS → Option (aS)
  | 0, _ => none
  | n + 1, s =>
    bu (dm176 (sI s 121 26) s) fun r3 =>
    bu (dm196 r3) fun r6 =>
    if r6 = 0 then
      some s
    else
      bu (dm176 (sI s 121 26) s) fun r10 =>
      if 1048576 < (((10 * (sI s 121 39)) + r10) - 48) then
        some s
      else
        bu (dm176 (sI s 121 26) s) fun r14 =>
        nx (wI s 121 39 (((10 * (sI s 121 39)) + r14) - 48)) fun s15 =>
        nx (wI s15 121 26 ((sI s15 121 26) + 1)) fun s18 =>
        dm208_35 n s18
set_option maxRecDepth 100000 in
theorem dt208_35 {sio : Bool} {tt : Nat} {cc : Nat → Nat → Int32} {d : Nat} (hd : 1 ≤ d) : ∀ (n : Nat) {s : aS} (_ : Ly tt cc s) {o : aS} (_ : dm208_35  n s = some o), Q 2 sio tt cc d 208 35 [some (.ref 121)] [] s (.inl none, o) := by
  obtain ⟨d, rfl⟩ : ∃ e, d = e + 1 := ⟨d - 1, by omega⟩
  intro n
  induction n with
  | zero => intro s hl o h; rw [dm208_35] at h; cases h
  | succ n ih =>
    intro s hl o h
    rw [dm208_35] at h
    refine Q.run zm208 2 (i' := 37) (ls' := [some (.ref 121)]) (st' := [.ref 121, .ref 121]) rfl ?_
    refine Q.map (A.gf (gI_of zm208 (e := (71, 3, .getfield 138, [9, 26])) rfl) (hl.lt (a := 121) (by decide)) (hl.T (a := 121) (p := (9, 45)) 43 rfl rfl) (by decide) rfl) ?_
    obtain ⟨r3, hc2, h⟩ := bu_so h
    have hq1 : Q 2 sio tt cc d 176 0 [some (.ref 121), some (.int (sI s 121 26))] [] s (.inl (some (.int r3)), s) := dt176 (by omega) hl  hc2
    refine Q.callI (gC_vi zm208 (show zM208.2.2.2.2.2[38]? = some (74, 3, .invokevirtual 113, [0, 176, 1, 9]) from rfl) zm176 (hl.lt (a := 121) (by decide)) (hl.T (a := 121) (p := (9, 45)) 43 rfl rfl) rfl (show aCr 1 121 [.int (sI s 121 26), .ref 121] 2 = some ([some (.ref 121), some (.int (sI s 121 26))], []) from rfl)) hq1 ?_
    obtain ⟨r6, hc5, h⟩ := bu_so h
    have hq4 : Q 2 sio tt cc d 196 0 [some (.int r3)] [] s (.inl (some (.int r6)), s) := dt196 (by omega) hl  hc5
    refine Q.callI (gC_st zm208 (show zM208.2.2.2.2.2[39]? = some (77, 3, .invokestatic 100, [0, 196, 1]) from rfl) zm196 (show aC 1 [.int r3] 1 = some ([some (.int r3)], []) from rfl)) hq4 ?_
    by_cases hc7 : r6 = 0
    · rw [if_pos hc7] at h
      refine Q.map (A.zT (gI_of zm208 (e := (80, 3, .ifCond .eq 63, [74])) rfl) (decide_eq_true hc7)) ?_
      cases h
      exact Q.ret (A.rv zm208 (show zM208.2.2.2.2.2[74]? = some (143, 1, .return_, []) from rfl) rfl) hl
    · rw [if_neg hc7] at h
      refine Q.map (A.zF (gI_of zm208 (e := (80, 3, .ifCond .eq 63, [74])) rfl) (fun q => hc7 (of_decide_eq_true q))) ?_
      refine Q.run zm208 2 (i' := 43) (ls' := [some (.ref 121)]) (st' := [.ref 121, .int 10]) rfl ?_
      refine Q.map (A.gf (gI_of zm208 (e := (86, 3, .getfield 206, [9, 39])) rfl) (hl.lt (a := 121) (by decide)) (hl.T (a := 121) (p := (9, 45)) 43 rfl rfl) (by decide) rfl) ?_
      refine Q.run zm208 3 (i' := 47) (ls' := [some (.ref 121)]) (st' := [.ref 121, .ref 121, .int (10 * (sI s 121 39))]) rfl ?_
      refine Q.map (A.gf (gI_of zm208 (e := (92, 3, .getfield 138, [9, 26])) rfl) (hl.lt (a := 121) (by decide)) (hl.T (a := 121) (p := (9, 45)) 43 rfl rfl) (by decide) rfl) ?_
      obtain ⟨r10, hc9, h⟩ := bu_so h
      have hq8 : Q 2 sio tt cc d 176 0 [some (.ref 121), some (.int (sI s 121 26))] [] s (.inl (some (.int r10)), s) := dt176 (by omega) hl  hc9
      refine Q.callI (gC_vi zm208 (show zM208.2.2.2.2.2[48]? = some (95, 3, .invokevirtual 113, [0, 176, 1, 9]) from rfl) zm176 (hl.lt (a := 121) (by decide)) (hl.T (a := 121) (p := (9, 45)) 43 rfl rfl) rfl (show aCr 1 121 [.int (sI s 121 26), .ref 121, .int (10 * (sI s 121 39))] 2 = some ([some (.ref 121), some (.int (sI s 121 26))], [.int (10 * (sI s 121 39))]) from rfl)) hq8 ?_
      refine Q.run zm208 4 (i' := 53) (ls' := [some (.ref 121)]) (st' := [.int 1048576, .int (((10 * (sI s 121 39)) + r10) - 48)]) rfl ?_
      by_cases hc11 : 1048576 < (((10 * (sI s 121 39)) + r10) - 48)
      · rw [if_pos hc11] at h
        refine Q.map (A.bT (gI_of zm208 (e := (104, 3, .if_icmp .gt 39, [74])) rfl) (decide_eq_true hc11)) ?_
        cases h
        exact Q.ret (A.rv zm208 (show zM208.2.2.2.2.2[74]? = some (143, 1, .return_, []) from rfl) rfl) hl
      · rw [if_neg hc11] at h
        refine Q.map (A.bF (gI_of zm208 (e := (104, 3, .if_icmp .gt 39, [74])) rfl) (fun q => hc11 (of_decide_eq_true q))) ?_
        refine Q.run zm208 3 (i' := 57) (ls' := [some (.ref 121)]) (st' := [.ref 121, .int 10, .ref 121]) rfl ?_
        refine Q.map (A.gf (gI_of zm208 (e := (111, 3, .getfield 206, [9, 39])) rfl) (hl.lt (a := 121) (by decide)) (hl.T (a := 121) (p := (9, 45)) 43 rfl rfl) (by decide) rfl) ?_
        refine Q.run zm208 3 (i' := 61) (ls' := [some (.ref 121)]) (st' := [.ref 121, .ref 121, .int (10 * (sI s 121 39)), .ref 121]) rfl ?_
        refine Q.map (A.gf (gI_of zm208 (e := (117, 3, .getfield 138, [9, 26])) rfl) (hl.lt (a := 121) (by decide)) (hl.T (a := 121) (p := (9, 45)) 43 rfl rfl) (by decide) rfl) ?_
        obtain ⟨r14, hc13, h⟩ := bu_so h
        have hq12 : Q 2 sio tt cc d 176 0 [some (.ref 121), some (.int (sI s 121 26))] [] s (.inl (some (.int r14)), s) := dt176 (by omega) hl  hc13
        refine Q.callI (gC_vi zm208 (show zM208.2.2.2.2.2[62]? = some (120, 3, .invokevirtual 113, [0, 176, 1, 9]) from rfl) zm176 (hl.lt (a := 121) (by decide)) (hl.T (a := 121) (p := (9, 45)) 43 rfl rfl) rfl (show aCr 1 121 [.int (sI s 121 26), .ref 121, .int (10 * (sI s 121 39)), .ref 121] 2 = some ([some (.ref 121), some (.int (sI s 121 26))], [.int (10 * (sI s 121 39)), .ref 121]) from rfl)) hq12 ?_
        refine Q.run zm208 3 (i' := 66) (ls' := [some (.ref 121)]) (st' := [.int (((10 * (sI s 121 39)) + r14) - 48), .ref 121]) rfl ?_
        obtain ⟨s15, hs16, h⟩ := nx_so h
        refine Q.pf hs16 rfl (gI_of zm208 (e := (127, 3, .putfield 206, [9, 39, 0])) rfl) (hl.lt (a := 121) (by decide)) (by decide) (hl.T (a := 121) (p := (9, 45)) 43 rfl rfl) (by decide) rfl rfl ?_
        have hl17 : Ly tt cc s15 := by rw [hs16]; exact hl.wId (by decide)
        refine Q.run zm208 2 (i' := 69) (ls' := [some (.ref 121)]) (st' := [.ref 121, .ref 121]) rfl ?_
        refine Q.map (A.gf (gI_of zm208 (e := (132, 3, .getfield 138, [9, 26])) rfl) (hl17.lt (a := 121) (by decide)) (hl17.T (a := 121) (p := (9, 45)) 43 rfl rfl) (by decide) rfl) ?_
        refine Q.run zm208 2 (i' := 72) (ls' := [some (.ref 121)]) (st' := [.int ((sI s15 121 26) + 1), .ref 121]) rfl ?_
        obtain ⟨s18, hs19, h⟩ := nx_so h
        refine Q.pf hs19 rfl (gI_of zm208 (e := (137, 3, .putfield 138, [9, 26, 0])) rfl) (hl17.lt (a := 121) (by decide)) (by decide) (hl17.T (a := 121) (p := (9, 45)) 43 rfl rfl) (by decide) rfl rfl ?_
        have hl20 : Ly tt cc s18 := by rw [hs19]; exact hl17.wId (by decide)
        refine Q.run zm208 1 (i' := 35) (ls' := [some (.ref 121)]) (st' := []) rfl ?_
        exact ih hl20  h
def dm208_30 (s : aS) : Option (aS) :=
  bu (dm186 (sI s 121 26) s) fun s3 =>
  some s3
set_option maxRecDepth 100000 in
theorem dt208_30 {sio : Bool} {tt : Nat} {cc : Nat → Nat → Int32} {d : Nat} (hd : 1 ≤ d) {s : aS} (hl : Ly tt cc s) {o : aS} (h : dm208_30  s = some o) : Q 2 sio tt cc d 208 30 [some (.ref 121)] [] s (.inl none, o) := by
  unfold dm208_30 at h
  obtain ⟨d, rfl⟩ : ∃ e, d = e + 1 := ⟨d - 1, by omega⟩
  refine Q.run zm208 2 (i' := 32) (ls' := [some (.ref 121)]) (st' := [.ref 121, .ref 121]) rfl ?_
  refine Q.map (A.gf (gI_of zm208 (e := (62, 3, .getfield 138, [9, 26])) rfl) (hl.lt (a := 121) (by decide)) (hl.T (a := 121) (p := (9, 45)) 43 rfl rfl) (by decide) rfl) ?_
  obtain ⟨s3, hc2, h⟩ := bu_so h
  have hq1 : Q 2 sio tt cc d 186 0 [some (.ref 121), some (.int (sI s 121 26))] [] s (.inl none, s3) := dt186 (by omega) hl  hc2
  refine Q.callV (gC_vi zm208 (show zM208.2.2.2.2.2[33]? = some (65, 3, .invokevirtual 164, [0, 186, 1, 9]) from rfl) zm186 (hl.lt (a := 121) (by decide)) (hl.T (a := 121) (p := (9, 45)) 43 rfl rfl) rfl (show aCr 1 121 [.int (sI s 121 26), .ref 121] 2 = some ([some (.ref 121), some (.int (sI s 121 26))], []) from rfl)) hq1 ?_
  cases h
  exact Q.ret (A.rv zm208 (show zM208.2.2.2.2.2[34]? = some (68, 1, .return_, []) from rfl) rfl) hq1.1
def dm208_18 (s : aS) : Option (aS) :=
  bu (dm176 (sI s 121 26) s) fun r3 =>
  bu (dm196 r3) fun r6 =>
  if r6 = 0 then
    dm208_30 s
  else
    bu (dm176 (sI s 121 26) s) fun r10 =>
    if r10 = 48 then
      dm208_30 s
    else
      dm208_35 5000 s
set_option maxRecDepth 100000 in
theorem dt208_18 {sio : Bool} {tt : Nat} {cc : Nat → Nat → Int32} {d : Nat} (hd : 1 ≤ d) {s : aS} (hl : Ly tt cc s) {o : aS} (h : dm208_18  s = some o) : Q 2 sio tt cc d 208 18 [some (.ref 121)] [] s (.inl none, o) := by
  unfold dm208_18 at h
  obtain ⟨d, rfl⟩ : ∃ e, d = e + 1 := ⟨d - 1, by omega⟩
  refine Q.run zm208 2 (i' := 20) (ls' := [some (.ref 121)]) (st' := [.ref 121, .ref 121]) rfl ?_
  refine Q.map (A.gf (gI_of zm208 (e := (35, 3, .getfield 138, [9, 26])) rfl) (hl.lt (a := 121) (by decide)) (hl.T (a := 121) (p := (9, 45)) 43 rfl rfl) (by decide) rfl) ?_
  obtain ⟨r3, hc2, h⟩ := bu_so h
  have hq1 : Q 2 sio tt cc d 176 0 [some (.ref 121), some (.int (sI s 121 26))] [] s (.inl (some (.int r3)), s) := dt176 (by omega) hl  hc2
  refine Q.callI (gC_vi zm208 (show zM208.2.2.2.2.2[21]? = some (38, 3, .invokevirtual 113, [0, 176, 1, 9]) from rfl) zm176 (hl.lt (a := 121) (by decide)) (hl.T (a := 121) (p := (9, 45)) 43 rfl rfl) rfl (show aCr 1 121 [.int (sI s 121 26), .ref 121] 2 = some ([some (.ref 121), some (.int (sI s 121 26))], []) from rfl)) hq1 ?_
  obtain ⟨r6, hc5, h⟩ := bu_so h
  have hq4 : Q 2 sio tt cc d 196 0 [some (.int r3)] [] s (.inl (some (.int r6)), s) := dt196 (by omega) hl  hc5
  refine Q.callI (gC_st zm208 (show zM208.2.2.2.2.2[22]? = some (41, 3, .invokestatic 100, [0, 196, 1]) from rfl) zm196 (show aC 1 [.int r3] 1 = some ([some (.int r3)], []) from rfl)) hq4 ?_
  by_cases hc7 : r6 = 0
  · rw [if_pos hc7] at h
    refine Q.map (A.zT (gI_of zm208 (e := (44, 3, .ifCond .eq 16, [30])) rfl) (decide_eq_true hc7)) ?_
    exact dt208_30 hd hl  h
  · rw [if_neg hc7] at h
    refine Q.map (A.zF (gI_of zm208 (e := (44, 3, .ifCond .eq 16, [30])) rfl) (fun q => hc7 (of_decide_eq_true q))) ?_
    refine Q.run zm208 2 (i' := 26) (ls' := [some (.ref 121)]) (st' := [.ref 121, .ref 121]) rfl ?_
    refine Q.map (A.gf (gI_of zm208 (e := (49, 3, .getfield 138, [9, 26])) rfl) (hl.lt (a := 121) (by decide)) (hl.T (a := 121) (p := (9, 45)) 43 rfl rfl) (by decide) rfl) ?_
    obtain ⟨r10, hc9, h⟩ := bu_so h
    have hq8 : Q 2 sio tt cc d 176 0 [some (.ref 121), some (.int (sI s 121 26))] [] s (.inl (some (.int r10)), s) := dt176 (by omega) hl  hc9
    refine Q.callI (gC_vi zm208 (show zM208.2.2.2.2.2[27]? = some (52, 3, .invokevirtual 113, [0, 176, 1, 9]) from rfl) zm176 (hl.lt (a := 121) (by decide)) (hl.T (a := 121) (p := (9, 45)) 43 rfl rfl) rfl (show aCr 1 121 [.int (sI s 121 26), .ref 121] 2 = some ([some (.ref 121), some (.int (sI s 121 26))], []) from rfl)) hq8 ?_
    refine Q.run zm208 1 (i' := 29) (ls' := [some (.ref 121)]) (st' := [.int 48, .int r10]) rfl ?_
    by_cases hc11 : r10 = 48
    · rw [if_pos hc11] at h
      refine Q.map (A.bF (gI_of zm208 (e := (57, 3, .if_icmp .ne 12, [35])) rfl) (fun q => of_decide_eq_true q hc11)) ?_
      exact dt208_30 hd hl  h
    · rw [if_neg hc11] at h
      refine Q.map (A.bT (gI_of zm208 (e := (57, 3, .if_icmp .ne 12, [35])) rfl) (decide_eq_true hc11)) ?_
      exact dt208_35 hd _ hl  h
def dm208 (s : aS) : Option (aS) :=
  bu (dm176 (sI s 121 26) s) fun r3 =>
  if r3 = 36 then
    nx (wI s 121 41 ((sI s 121 41) + 1)) fun s5 =>
    nx (wI s5 121 26 ((sI s5 121 26) + 1)) fun s8 =>
    dm208_18 s8
  else
    dm208_18 s
set_option maxRecDepth 100000 in
theorem dt208 {sio : Bool} {tt : Nat} {cc : Nat → Nat → Int32} {d : Nat} (hd : 1 ≤ d) {s : aS} (hl : Ly tt cc s) {o : aS} (h : dm208  s = some o) : Q 2 sio tt cc d 208 0 [some (.ref 121)] [] s (.inl none, o) := by
  unfold dm208 at h
  obtain ⟨d, rfl⟩ : ∃ e, d = e + 1 := ⟨d - 1, by omega⟩
  refine Q.run zm208 2 (i' := 2) (ls' := [some (.ref 121)]) (st' := [.ref 121, .ref 121]) rfl ?_
  refine Q.map (A.gf (gI_of zm208 (e := (2, 3, .getfield 138, [9, 26])) rfl) (hl.lt (a := 121) (by decide)) (hl.T (a := 121) (p := (9, 45)) 43 rfl rfl) (by decide) rfl) ?_
  obtain ⟨r3, hc2, h⟩ := bu_so h
  have hq1 : Q 2 sio tt cc d 176 0 [some (.ref 121), some (.int (sI s 121 26))] [] s (.inl (some (.int r3)), s) := dt176 (by omega) hl  hc2
  refine Q.callI (gC_vi zm208 (show zM208.2.2.2.2.2[3]? = some (5, 3, .invokevirtual 113, [0, 176, 1, 9]) from rfl) zm176 (hl.lt (a := 121) (by decide)) (hl.T (a := 121) (p := (9, 45)) 43 rfl rfl) rfl (show aCr 1 121 [.int (sI s 121 26), .ref 121] 2 = some ([some (.ref 121), some (.int (sI s 121 26))], []) from rfl)) hq1 ?_
  refine Q.run zm208 1 (i' := 5) (ls' := [some (.ref 121)]) (st' := [.int 36, .int r3]) rfl ?_
  by_cases hc4 : r3 = 36
  · rw [if_pos hc4] at h
    refine Q.map (A.bF (gI_of zm208 (e := (10, 3, .if_icmp .ne 23, [18])) rfl) (fun q => of_decide_eq_true q hc4)) ?_
    refine Q.run zm208 2 (i' := 8) (ls' := [some (.ref 121)]) (st' := [.ref 121, .ref 121]) rfl ?_
    refine Q.map (A.gf (gI_of zm208 (e := (15, 3, .getfield 200, [9, 41])) rfl) (hl.lt (a := 121) (by decide)) (hl.T (a := 121) (p := (9, 45)) 43 rfl rfl) (by decide) rfl) ?_
    refine Q.run zm208 2 (i' := 11) (ls' := [some (.ref 121)]) (st' := [.int ((sI s 121 41) + 1), .ref 121]) rfl ?_
    obtain ⟨s5, hs6, h⟩ := nx_so h
    refine Q.pf hs6 rfl (gI_of zm208 (e := (20, 3, .putfield 200, [9, 41, 0])) rfl) (hl.lt (a := 121) (by decide)) (by decide) (hl.T (a := 121) (p := (9, 45)) 43 rfl rfl) (by decide) rfl rfl ?_
    have hl7 : Ly tt cc s5 := by rw [hs6]; exact hl.wId (by decide)
    refine Q.run zm208 2 (i' := 14) (ls' := [some (.ref 121)]) (st' := [.ref 121, .ref 121]) rfl ?_
    refine Q.map (A.gf (gI_of zm208 (e := (25, 3, .getfield 138, [9, 26])) rfl) (hl7.lt (a := 121) (by decide)) (hl7.T (a := 121) (p := (9, 45)) 43 rfl rfl) (by decide) rfl) ?_
    refine Q.run zm208 2 (i' := 17) (ls' := [some (.ref 121)]) (st' := [.int ((sI s5 121 26) + 1), .ref 121]) rfl ?_
    obtain ⟨s8, hs9, h⟩ := nx_so h
    refine Q.pf hs9 rfl (gI_of zm208 (e := (30, 3, .putfield 138, [9, 26, 0])) rfl) (hl7.lt (a := 121) (by decide)) (by decide) (hl7.T (a := 121) (p := (9, 45)) 43 rfl rfl) (by decide) rfl rfl ?_
    have hl10 : Ly tt cc s8 := by rw [hs9]; exact hl7.wId (by decide)
    exact dt208_18 hd hl10  h
  · rw [if_neg hc4] at h
    refine Q.map (A.bT (gI_of zm208 (e := (10, 3, .if_icmp .ne 23, [18])) rfl) (decide_eq_true hc4)) ?_
    exact dt208_18 hd hl  h
/-! 207 FormulaTreesModel.readCell()V -/
set_option maxRecDepth 100000 in
theorem zm207 : zP[207]? = some zM207 := rfl
def dm207_71 (x1 : Int32) (s : aS) : Option (aS) :=
  if x1 = 0 then
    bu (dm186 (sI s 121 26) s) fun s4 =>
    some s4
  else
    bu (dm208 s) fun s7 =>
    some s7
set_option maxRecDepth 100000 in
theorem dt207_71 {sio : Bool} {tt : Nat} {cc : Nat → Nat → Int32} {d : Nat} (hd : 2 ≤ d) {x1 : Int32} {s : aS} (hl : Ly tt cc s) {o : aS} (h : dm207_71  x1 s = some o) : Q 2 sio tt cc d 207 71 [some (.ref 121), some (.int x1)] [] s (.inl none, o) := by
  unfold dm207_71 at h
  obtain ⟨d, rfl⟩ : ∃ e, d = e + 1 := ⟨d - 1, by omega⟩
  refine Q.run zm207 1 (i' := 72) (ls' := [some (.ref 121), some (.int x1)]) (st' := [.int x1]) rfl ?_
  by_cases hc1 : x1 = 0
  · rw [if_pos hc1] at h
    refine Q.map (A.zF (gI_of zm207 (e := (135, 3, .ifCond .ne 14, [78])) rfl) (fun q => of_decide_eq_true q hc1)) ?_
    refine Q.run zm207 2 (i' := 75) (ls' := [some (.ref 121), some (.int x1)]) (st' := [.ref 121, .ref 121]) rfl ?_
    refine Q.map (A.gf (gI_of zm207 (e := (140, 3, .getfield 138, [9, 26])) rfl) (hl.lt (a := 121) (by decide)) (hl.T (a := 121) (p := (9, 45)) 43 rfl rfl) (by decide) rfl) ?_
    obtain ⟨s4, hc3, h⟩ := bu_so h
    have hq2 : Q 2 sio tt cc d 186 0 [some (.ref 121), some (.int (sI s 121 26))] [] s (.inl none, s4) := dt186 (by omega) hl  hc3
    refine Q.callV (gC_vi zm207 (show zM207.2.2.2.2.2[76]? = some (143, 3, .invokevirtual 164, [0, 186, 1, 9]) from rfl) zm186 (hl.lt (a := 121) (by decide)) (hl.T (a := 121) (p := (9, 45)) 43 rfl rfl) rfl (show aCr 1 121 [.int (sI s 121 26), .ref 121] 2 = some ([some (.ref 121), some (.int (sI s 121 26))], []) from rfl)) hq2 ?_
    refine Q.run zm207 1 (i' := 80) (ls' := [some (.ref 121), some (.int x1)]) (st' := []) rfl ?_
    cases h
    exact Q.ret (A.rv zm207 (show zM207.2.2.2.2.2[80]? = some (153, 1, .return_, []) from rfl) rfl) hq2.1
  · rw [if_neg hc1] at h
    refine Q.map (A.zT (gI_of zm207 (e := (135, 3, .ifCond .ne 14, [78])) rfl) (decide_eq_true hc1)) ?_
    refine Q.run zm207 1 (i' := 79) (ls' := [some (.ref 121), some (.int x1)]) (st' := [.ref 121]) rfl ?_
    obtain ⟨s7, hc6, h⟩ := bu_so h
    have hq5 : Q 2 sio tt cc d 208 0 [some (.ref 121)] [] s (.inl none, s7) := dt208 (by omega) hl  hc6
    refine Q.callV (gC_vi zm207 (show zM207.2.2.2.2.2[79]? = some (150, 3, .invokevirtual 209, [0, 208, 0, 9]) from rfl) zm208 (hl.lt (a := 121) (by decide)) (hl.T (a := 121) (p := (9, 45)) 43 rfl rfl) rfl (show aCr 0 121 [.ref 121] 1 = some ([some (.ref 121)], []) from rfl)) hq5 ?_
    cases h
    exact Q.ret (A.rv zm207 (show zM207.2.2.2.2.2[80]? = some (153, 1, .return_, []) from rfl) rfl) hq5.1
def dm207_26 : Nat → Int32 → aS → Option (aS)
  | 0, _, _ => none
  | n + 1, x1, s =>
    bu (dm176 (sI s 121 26) s) fun r3 =>
    bu (dm198 r3) fun r6 =>
    if r6 = 0 then
      dm207_71 x1 s
    else
      if 3 ≤ x1 then
        dm207_71 x1 s
      else
        bu (dm176 (sI s 121 26) s) fun r11 =>
        bu (dm178 r11) fun r14 =>
        if 16384 < (((26 * (sI s 121 40)) + r14) - 64) then
          dm207_71 x1 s
        else
          bu (dm176 (sI s 121 26) s) fun r18 =>
          bu (dm178 r18) fun r21 =>
          nx (wI s 121 40 (((26 * (sI s 121 40)) + r21) - 64)) fun s22 =>
          nx (wI s22 121 26 ((sI s22 121 26) + 1)) fun s25 =>
          dm207_26 n (x1 + 1) s25
set_option maxRecDepth 100000 in
theorem dt207_26 {sio : Bool} {tt : Nat} {cc : Nat → Nat → Int32} {d : Nat} (hd : 2 ≤ d) : ∀ (n : Nat) {x1 : Int32} {s : aS} (_ : Ly tt cc s) {o : aS} (_ : dm207_26  n x1 s = some o), Q 2 sio tt cc d 207 26 [some (.ref 121), some (.int x1)] [] s (.inl none, o) := by
  obtain ⟨d, rfl⟩ : ∃ e, d = e + 1 := ⟨d - 1, by omega⟩
  intro n
  induction n with
  | zero => intro x1 s hl o h; rw [dm207_26] at h; cases h
  | succ n ih =>
    intro x1 s hl o h
    rw [dm207_26] at h
    refine Q.run zm207 2 (i' := 28) (ls' := [some (.ref 121), some (.int x1)]) (st' := [.ref 121, .ref 121]) rfl ?_
    refine Q.map (A.gf (gI_of zm207 (e := (47, 3, .getfield 138, [9, 26])) rfl) (hl.lt (a := 121) (by decide)) (hl.T (a := 121) (p := (9, 45)) 43 rfl rfl) (by decide) rfl) ?_
    obtain ⟨r3, hc2, h⟩ := bu_so h
    have hq1 : Q 2 sio tt cc d 176 0 [some (.ref 121), some (.int (sI s 121 26))] [] s (.inl (some (.int r3)), s) := dt176 (by omega) hl  hc2
    refine Q.callI (gC_vi zm207 (show zM207.2.2.2.2.2[29]? = some (50, 3, .invokevirtual 113, [0, 176, 1, 9]) from rfl) zm176 (hl.lt (a := 121) (by decide)) (hl.T (a := 121) (p := (9, 45)) 43 rfl rfl) rfl (show aCr 1 121 [.int (sI s 121 26), .ref 121] 2 = some ([some (.ref 121), some (.int (sI s 121 26))], []) from rfl)) hq1 ?_
    obtain ⟨r6, hc5, h⟩ := bu_so h
    have hq4 : Q 2 sio tt cc d 198 0 [some (.int r3)] [] s (.inl (some (.int r6)), s) := dt198 (by omega) hl  hc5
    refine Q.callI (gC_st zm207 (show zM207.2.2.2.2.2[30]? = some (53, 3, .invokestatic 93, [0, 198, 1]) from rfl) zm198 (show aC 1 [.int r3] 1 = some ([some (.int r3)], []) from rfl)) hq4 ?_
    by_cases hc7 : r6 = 0
    · rw [if_pos hc7] at h
      refine Q.map (A.zT (gI_of zm207 (e := (56, 3, .ifCond .eq 78, [71])) rfl) (decide_eq_true hc7)) ?_
      exact dt207_71 hd hl  h
    · rw [if_neg hc7] at h
      refine Q.map (A.zF (gI_of zm207 (e := (56, 3, .ifCond .eq 78, [71])) rfl) (fun q => hc7 (of_decide_eq_true q))) ?_
      refine Q.run zm207 2 (i' := 34) (ls' := [some (.ref 121), some (.int x1)]) (st' := [.int 3, .int x1]) rfl ?_
      by_cases hc8 : 3 ≤ x1
      · rw [if_pos hc8] at h
        refine Q.map (A.bT (gI_of zm207 (e := (61, 3, .if_icmp .ge 73, [71])) rfl) (decide_eq_true hc8)) ?_
        exact dt207_71 hd hl  h
      · rw [if_neg hc8] at h
        refine Q.map (A.bF (gI_of zm207 (e := (61, 3, .if_icmp .ge 73, [71])) rfl) (fun q => hc8 (of_decide_eq_true q))) ?_
        refine Q.run zm207 2 (i' := 37) (ls' := [some (.ref 121), some (.int x1)]) (st' := [.ref 121, .int 26]) rfl ?_
        refine Q.map (A.gf (gI_of zm207 (e := (67, 3, .getfield 203, [9, 40])) rfl) (hl.lt (a := 121) (by decide)) (hl.T (a := 121) (p := (9, 45)) 43 rfl rfl) (by decide) rfl) ?_
        refine Q.run zm207 3 (i' := 41) (ls' := [some (.ref 121), some (.int x1)]) (st' := [.ref 121, .ref 121, .int (26 * (sI s 121 40))]) rfl ?_
        refine Q.map (A.gf (gI_of zm207 (e := (73, 3, .getfield 138, [9, 26])) rfl) (hl.lt (a := 121) (by decide)) (hl.T (a := 121) (p := (9, 45)) 43 rfl rfl) (by decide) rfl) ?_
        obtain ⟨r11, hc10, h⟩ := bu_so h
        have hq9 : Q 2 sio tt cc d 176 0 [some (.ref 121), some (.int (sI s 121 26))] [] s (.inl (some (.int r11)), s) := dt176 (by omega) hl  hc10
        refine Q.callI (gC_vi zm207 (show zM207.2.2.2.2.2[42]? = some (76, 3, .invokevirtual 113, [0, 176, 1, 9]) from rfl) zm176 (hl.lt (a := 121) (by decide)) (hl.T (a := 121) (p := (9, 45)) 43 rfl rfl) rfl (show aCr 1 121 [.int (sI s 121 26), .ref 121, .int (26 * (sI s 121 40))] 2 = some ([some (.ref 121), some (.int (sI s 121 26))], [.int (26 * (sI s 121 40))]) from rfl)) hq9 ?_
        obtain ⟨r14, hc13, h⟩ := bu_so h
        have hq12 : Q 2 sio tt cc d 178 0 [some (.int r11)] [] s (.inl (some (.int r14)), s) := dt178 (by omega) hl  hc13
        refine Q.callI (gC_st zm207 (show zM207.2.2.2.2.2[43]? = some (79, 3, .invokestatic 109, [0, 178, 1]) from rfl) zm178 (show aC 1 [.int r11, .int (26 * (sI s 121 40))] 1 = some ([some (.int r11)], [.int (26 * (sI s 121 40))]) from rfl)) hq12 ?_
        refine Q.run zm207 4 (i' := 48) (ls' := [some (.ref 121), some (.int x1)]) (st' := [.int 16384, .int (((26 * (sI s 121 40)) + r14) - 64)]) rfl ?_
        by_cases hc15 : 16384 < (((26 * (sI s 121 40)) + r14) - 64)
        · rw [if_pos hc15] at h
          refine Q.map (A.bT (gI_of zm207 (e := (89, 3, .if_icmp .gt 45, [71])) rfl) (decide_eq_true hc15)) ?_
          exact dt207_71 hd hl  h
        · rw [if_neg hc15] at h
          refine Q.map (A.bF (gI_of zm207 (e := (89, 3, .if_icmp .gt 45, [71])) rfl) (fun q => hc15 (of_decide_eq_true q))) ?_
          refine Q.run zm207 3 (i' := 52) (ls' := [some (.ref 121), some (.int x1)]) (st' := [.ref 121, .int 26, .ref 121]) rfl ?_
          refine Q.map (A.gf (gI_of zm207 (e := (96, 3, .getfield 203, [9, 40])) rfl) (hl.lt (a := 121) (by decide)) (hl.T (a := 121) (p := (9, 45)) 43 rfl rfl) (by decide) rfl) ?_
          refine Q.run zm207 3 (i' := 56) (ls' := [some (.ref 121), some (.int x1)]) (st' := [.ref 121, .ref 121, .int (26 * (sI s 121 40)), .ref 121]) rfl ?_
          refine Q.map (A.gf (gI_of zm207 (e := (102, 3, .getfield 138, [9, 26])) rfl) (hl.lt (a := 121) (by decide)) (hl.T (a := 121) (p := (9, 45)) 43 rfl rfl) (by decide) rfl) ?_
          obtain ⟨r18, hc17, h⟩ := bu_so h
          have hq16 : Q 2 sio tt cc d 176 0 [some (.ref 121), some (.int (sI s 121 26))] [] s (.inl (some (.int r18)), s) := dt176 (by omega) hl  hc17
          refine Q.callI (gC_vi zm207 (show zM207.2.2.2.2.2[57]? = some (105, 3, .invokevirtual 113, [0, 176, 1, 9]) from rfl) zm176 (hl.lt (a := 121) (by decide)) (hl.T (a := 121) (p := (9, 45)) 43 rfl rfl) rfl (show aCr 1 121 [.int (sI s 121 26), .ref 121, .int (26 * (sI s 121 40)), .ref 121] 2 = some ([some (.ref 121), some (.int (sI s 121 26))], [.int (26 * (sI s 121 40)), .ref 121]) from rfl)) hq16 ?_
          obtain ⟨r21, hc20, h⟩ := bu_so h
          have hq19 : Q 2 sio tt cc d 178 0 [some (.int r18)] [] s (.inl (some (.int r21)), s) := dt178 (by omega) hl  hc20
          refine Q.callI (gC_st zm207 (show zM207.2.2.2.2.2[58]? = some (108, 3, .invokestatic 109, [0, 178, 1]) from rfl) zm178 (show aC 1 [.int r18, .int (26 * (sI s 121 40)), .ref 121] 1 = some ([some (.int r18)], [.int (26 * (sI s 121 40)), .ref 121]) from rfl)) hq19 ?_
          refine Q.run zm207 3 (i' := 62) (ls' := [some (.ref 121), some (.int x1)]) (st' := [.int (((26 * (sI s 121 40)) + r21) - 64), .ref 121]) rfl ?_
          obtain ⟨s22, hs23, h⟩ := nx_so h
          refine Q.pf hs23 rfl (gI_of zm207 (e := (115, 3, .putfield 203, [9, 40, 0])) rfl) (hl.lt (a := 121) (by decide)) (by decide) (hl.T (a := 121) (p := (9, 45)) 43 rfl rfl) (by decide) rfl rfl ?_
          have hl24 : Ly tt cc s22 := by rw [hs23]; exact hl.wId (by decide)
          refine Q.run zm207 2 (i' := 65) (ls' := [some (.ref 121), some (.int x1)]) (st' := [.ref 121, .ref 121]) rfl ?_
          refine Q.map (A.gf (gI_of zm207 (e := (120, 3, .getfield 138, [9, 26])) rfl) (hl24.lt (a := 121) (by decide)) (hl24.T (a := 121) (p := (9, 45)) 43 rfl rfl) (by decide) rfl) ?_
          refine Q.run zm207 2 (i' := 68) (ls' := [some (.ref 121), some (.int x1)]) (st' := [.int ((sI s22 121 26) + 1), .ref 121]) rfl ?_
          obtain ⟨s25, hs26, h⟩ := nx_so h
          refine Q.pf hs26 rfl (gI_of zm207 (e := (125, 3, .putfield 138, [9, 26, 0])) rfl) (hl24.lt (a := 121) (by decide)) (by decide) (hl24.T (a := 121) (p := (9, 45)) 43 rfl rfl) (by decide) rfl rfl ?_
          have hl27 : Ly tt cc s25 := by rw [hs26]; exact hl24.wId (by decide)
          refine Q.run zm207 2 (i' := 26) (ls' := [some (.ref 121), some (.int (x1 + 1))]) (st' := []) rfl ?_
          exact ih hl27  h
def dm207_24 (s : aS) : Option (aS) :=
  dm207_26 5000 0 s
set_option maxRecDepth 100000 in
theorem dt207_24 {sio : Bool} {tt : Nat} {cc : Nat → Nat → Int32} {d : Nat} (hd : 2 ≤ d) {s : aS} (hl : Ly tt cc s) {o : aS} (h : dm207_24  s = some o) : Q 2 sio tt cc d 207 24 [some (.ref 121), none] [] s (.inl none, o) := by
  unfold dm207_24 at h
  obtain ⟨d, rfl⟩ : ∃ e, d = e + 1 := ⟨d - 1, by omega⟩
  refine Q.run zm207 2 (i' := 26) (ls' := [some (.ref 121), some (.int 0)]) (st' := []) rfl ?_
  exact dt207_26 hd _ hl  h
def dm207 (s : aS) : Option (aS) :=
  nx (wI s 121 41 0) fun s1 =>
  nx (wI s1 121 40 0) fun s4 =>
  nx (wI s4 121 39 0) fun s7 =>
  bu (dm176 (sI s7 121 26) s7) fun r12 =>
  if r12 = 36 then
    nx (wI s7 121 41 2) fun s14 =>
    nx (wI s14 121 26 ((sI s14 121 26) + 1)) fun s17 =>
    dm207_24 s17
  else
    dm207_24 s7
set_option maxRecDepth 100000 in
theorem dt207 {sio : Bool} {tt : Nat} {cc : Nat → Nat → Int32} {d : Nat} (hd : 2 ≤ d) {s : aS} (hl : Ly tt cc s) {o : aS} (h : dm207  s = some o) : Q 2 sio tt cc d 207 0 [some (.ref 121), none] [] s (.inl none, o) := by
  unfold dm207 at h
  obtain ⟨d, rfl⟩ : ∃ e, d = e + 1 := ⟨d - 1, by omega⟩
  refine Q.run zm207 2 (i' := 2) (ls' := [some (.ref 121), none]) (st' := [.int 0, .ref 121]) rfl ?_
  obtain ⟨s1, hs2, h⟩ := nx_so h
  refine Q.pf hs2 rfl (gI_of zm207 (e := (2, 3, .putfield 200, [9, 41, 0])) rfl) (hl.lt (a := 121) (by decide)) (by decide) (hl.T (a := 121) (p := (9, 45)) 43 rfl rfl) (by decide) rfl rfl ?_
  have hl3 : Ly tt cc s1 := by rw [hs2]; exact hl.wId (by decide)
  refine Q.run zm207 2 (i' := 5) (ls' := [some (.ref 121), none]) (st' := [.int 0, .ref 121]) rfl ?_
  obtain ⟨s4, hs5, h⟩ := nx_so h
  refine Q.pf hs5 rfl (gI_of zm207 (e := (7, 3, .putfield 203, [9, 40, 0])) rfl) (hl3.lt (a := 121) (by decide)) (by decide) (hl3.T (a := 121) (p := (9, 45)) 43 rfl rfl) (by decide) rfl rfl ?_
  have hl6 : Ly tt cc s4 := by rw [hs5]; exact hl3.wId (by decide)
  refine Q.run zm207 2 (i' := 8) (ls' := [some (.ref 121), none]) (st' := [.int 0, .ref 121]) rfl ?_
  obtain ⟨s7, hs8, h⟩ := nx_so h
  refine Q.pf hs8 rfl (gI_of zm207 (e := (12, 3, .putfield 206, [9, 39, 0])) rfl) (hl6.lt (a := 121) (by decide)) (by decide) (hl6.T (a := 121) (p := (9, 45)) 43 rfl rfl) (by decide) rfl rfl ?_
  have hl9 : Ly tt cc s7 := by rw [hs8]; exact hl6.wId (by decide)
  refine Q.run zm207 2 (i' := 11) (ls' := [some (.ref 121), none]) (st' := [.ref 121, .ref 121]) rfl ?_
  refine Q.map (A.gf (gI_of zm207 (e := (17, 3, .getfield 138, [9, 26])) rfl) (hl9.lt (a := 121) (by decide)) (hl9.T (a := 121) (p := (9, 45)) 43 rfl rfl) (by decide) rfl) ?_
  obtain ⟨r12, hc11, h⟩ := bu_so h
  have hq10 : Q 2 sio tt cc d 176 0 [some (.ref 121), some (.int (sI s7 121 26))] [] s7 (.inl (some (.int r12)), s7) := dt176 (by omega) hl9  hc11
  refine Q.callI (gC_vi zm207 (show zM207.2.2.2.2.2[12]? = some (20, 3, .invokevirtual 113, [0, 176, 1, 9]) from rfl) zm176 (hl9.lt (a := 121) (by decide)) (hl9.T (a := 121) (p := (9, 45)) 43 rfl rfl) rfl (show aCr 1 121 [.int (sI s7 121 26), .ref 121] 2 = some ([some (.ref 121), some (.int (sI s7 121 26))], []) from rfl)) hq10 ?_
  refine Q.run zm207 1 (i' := 14) (ls' := [some (.ref 121), none]) (st' := [.int 36, .int r12]) rfl ?_
  by_cases hc13 : r12 = 36
  · rw [if_pos hc13] at h
    refine Q.map (A.bF (gI_of zm207 (e := (25, 3, .if_icmp .ne 18, [24])) rfl) (fun q => of_decide_eq_true q hc13)) ?_
    refine Q.run zm207 2 (i' := 17) (ls' := [some (.ref 121), none]) (st' := [.int 2, .ref 121]) rfl ?_
    obtain ⟨s14, hs15, h⟩ := nx_so h
    refine Q.pf hs15 rfl (gI_of zm207 (e := (30, 3, .putfield 200, [9, 41, 0])) rfl) (hl9.lt (a := 121) (by decide)) (by decide) (hl9.T (a := 121) (p := (9, 45)) 43 rfl rfl) (by decide) rfl rfl ?_
    have hl16 : Ly tt cc s14 := by rw [hs15]; exact hl9.wId (by decide)
    refine Q.run zm207 2 (i' := 20) (ls' := [some (.ref 121), none]) (st' := [.ref 121, .ref 121]) rfl ?_
    refine Q.map (A.gf (gI_of zm207 (e := (35, 3, .getfield 138, [9, 26])) rfl) (hl16.lt (a := 121) (by decide)) (hl16.T (a := 121) (p := (9, 45)) 43 rfl rfl) (by decide) rfl) ?_
    refine Q.run zm207 2 (i' := 23) (ls' := [some (.ref 121), none]) (st' := [.int ((sI s14 121 26) + 1), .ref 121]) rfl ?_
    obtain ⟨s17, hs18, h⟩ := nx_so h
    refine Q.pf hs18 rfl (gI_of zm207 (e := (40, 3, .putfield 138, [9, 26, 0])) rfl) (hl16.lt (a := 121) (by decide)) (by decide) (hl16.T (a := 121) (p := (9, 45)) 43 rfl rfl) (by decide) rfl rfl ?_
    have hl19 : Ly tt cc s17 := by rw [hs18]; exact hl16.wId (by decide)
    exact dt207_24 hd hl19  h
  · rw [if_neg hc13] at h
    refine Q.map (A.bT (gI_of zm207 (e := (25, 3, .if_icmp .ne 18, [24])) rfl) (decide_eq_true hc13)) ?_
    exact dt207_24 hd hl9  h
/-! 209 FormulaTreesModel.makeCell(I)V -/
set_option maxRecDepth 100000 in
theorem zm209 : zP[209]? = some zM209 := rfl
def dm209 (x1 : Int32) (s : aS) : Option (aS) :=
  bv (dm187 4 s) fun r4 s3 =>
  if aB (1024 + r4) 1152 then
    nx (wI s3 130 (jN (1024 + r4)) x1) fun s6 =>
    if aB (1024 + r4) 1152 then
      nx (wI s6 131 (jN (1024 + r4)) (sI s6 121 39)) fun s10 =>
      if aB (1024 + r4) 1152 then
        nx (wI s10 132 (jN (1024 + r4)) (sI s10 121 40)) fun s14 =>
        if aB (1024 + r4) 1152 then
          nx (wI s14 133 (jN (1024 + r4)) (sI s14 121 39)) fun s18 =>
          if aB (1024 + r4) 1152 then
            nx (wI s18 134 (jN (1024 + r4)) (sI s18 121 40)) fun s22 =>
            if aB (1024 + r4) 1152 then
              nx (wI s22 135 (jN (1024 + r4)) (sI s22 121 41)) fun s26 =>
              bu (dm194 r4 s26) fun s31 =>
              nx (wI s31 121 34 r4) fun s32 =>
              some s32
            else none
          else none
        else none
      else none
    else none
  else none
set_option maxRecDepth 100000 in
theorem dt209 {sio : Bool} {tt : Nat} {cc : Nat → Nat → Int32} {d : Nat} (hd : 1 ≤ d) {x1 : Int32} {s : aS} (hl : Ly tt cc s) {o : aS} (h : dm209  x1 s = some o) : Q 2 sio tt cc d 209 0 [some (.ref 121), some (.int x1), none, none] [] s (.inl none, o) := by
  unfold dm209 at h
  obtain ⟨d, rfl⟩ : ∃ e, d = e + 1 := ⟨d - 1, by omega⟩
  refine Q.run zm209 2 (i' := 2) (ls' := [some (.ref 121), some (.int x1), none, none]) (st' := [.int 4, .ref 121]) rfl ?_
  obtain ⟨r4, s3, hc2, h⟩ := bv_so h
  have hq1 : Q 2 sio tt cc d 187 0 [some (.ref 121), some (.int 4), none, none] [] s (.inl (some (.int r4)), s3) := dt187 (by omega) hl  hc2
  refine Q.callI (gC_vi zm209 (show zM209.2.2.2.2.2[2]? = some (2, 3, .invokevirtual 167, [0, 187, 1, 9]) from rfl) zm187 (hl.lt (a := 121) (by decide)) (hl.T (a := 121) (p := (9, 45)) 43 rfl rfl) rfl (show aCr 1 121 [.int 4, .ref 121] 4 = some ([some (.ref 121), some (.int 4), none, none], []) from rfl)) hq1 ?_
  refine Q.run zm209 6 (i' := 9) (ls' := [some (.ref 121), some (.int x1), some (.int r4), some (.int (1024 + r4))]) (st' := [.ref 121]) rfl ?_
  refine Q.map (A.gf (gI_of zm209 (e := (13, 3, .getfield 35, [9, 11])) rfl) (hq1.1.lt (a := 121) (by decide)) (hq1.1.T (a := 121) (p := (9, 45)) 43 rfl rfl) (by decide) (hq1.1.R 31 rfl)) ?_
  refine Q.run zm209 2 (i' := 12) (ls' := [some (.ref 121), some (.int x1), some (.int r4), some (.int (1024 + r4))]) (st' := [.int x1, .int (1024 + r4), .ref 130]) rfl ?_
  obtain ⟨hc5, h⟩ := ite_so h
  obtain ⟨s6, hs7, h⟩ := nx_so h
  refine Q.is hs7 rfl (gI_of zm209 (e := (18, 1, .iastore, [])) rfl) (hq1.1.lt (a := 130) (by decide)) (by decide) (hq1.1.T (a := 130) (p := (100, 1152)) 52 rfl rfl) hc5 ?_
  have hl8 : Ly tt cc s6 := by rw [hs7]; exact hq1.1.wId (by decide)
  refine Q.run zm209 1 (i' := 14) (ls' := [some (.ref 121), some (.int x1), some (.int r4), some (.int (1024 + r4))]) (st' := [.ref 121]) rfl ?_
  refine Q.map (A.gf (gI_of zm209 (e := (20, 3, .getfield 38, [9, 12])) rfl) (hl8.lt (a := 121) (by decide)) (hl8.T (a := 121) (p := (9, 45)) 43 rfl rfl) (by decide) (hl8.R 32 rfl)) ?_
  refine Q.run zm209 2 (i' := 17) (ls' := [some (.ref 121), some (.int x1), some (.int r4), some (.int (1024 + r4))]) (st' := [.ref 121, .int (1024 + r4), .ref 131]) rfl ?_
  refine Q.map (A.gf (gI_of zm209 (e := (25, 3, .getfield 206, [9, 39])) rfl) (hl8.lt (a := 121) (by decide)) (hl8.T (a := 121) (p := (9, 45)) 43 rfl rfl) (by decide) rfl) ?_
  obtain ⟨hc9, h⟩ := ite_so h
  obtain ⟨s10, hs11, h⟩ := nx_so h
  refine Q.is hs11 rfl (gI_of zm209 (e := (28, 1, .iastore, [])) rfl) (hl8.lt (a := 131) (by decide)) (by decide) (hl8.T (a := 131) (p := (100, 1152)) 53 rfl rfl) hc9 ?_
  have hl12 : Ly tt cc s10 := by rw [hs11]; exact hl8.wId (by decide)
  refine Q.run zm209 1 (i' := 20) (ls' := [some (.ref 121), some (.int x1), some (.int r4), some (.int (1024 + r4))]) (st' := [.ref 121]) rfl ?_
  refine Q.map (A.gf (gI_of zm209 (e := (30, 3, .getfield 41, [9, 13])) rfl) (hl12.lt (a := 121) (by decide)) (hl12.T (a := 121) (p := (9, 45)) 43 rfl rfl) (by decide) (hl12.R 33 rfl)) ?_
  refine Q.run zm209 2 (i' := 23) (ls' := [some (.ref 121), some (.int x1), some (.int r4), some (.int (1024 + r4))]) (st' := [.ref 121, .int (1024 + r4), .ref 132]) rfl ?_
  refine Q.map (A.gf (gI_of zm209 (e := (35, 3, .getfield 203, [9, 40])) rfl) (hl12.lt (a := 121) (by decide)) (hl12.T (a := 121) (p := (9, 45)) 43 rfl rfl) (by decide) rfl) ?_
  obtain ⟨hc13, h⟩ := ite_so h
  obtain ⟨s14, hs15, h⟩ := nx_so h
  refine Q.is hs15 rfl (gI_of zm209 (e := (38, 1, .iastore, [])) rfl) (hl12.lt (a := 132) (by decide)) (by decide) (hl12.T (a := 132) (p := (100, 1152)) 54 rfl rfl) hc13 ?_
  have hl16 : Ly tt cc s14 := by rw [hs15]; exact hl12.wId (by decide)
  refine Q.run zm209 1 (i' := 26) (ls' := [some (.ref 121), some (.int x1), some (.int r4), some (.int (1024 + r4))]) (st' := [.ref 121]) rfl ?_
  refine Q.map (A.gf (gI_of zm209 (e := (40, 3, .getfield 44, [9, 14])) rfl) (hl16.lt (a := 121) (by decide)) (hl16.T (a := 121) (p := (9, 45)) 43 rfl rfl) (by decide) (hl16.R 34 rfl)) ?_
  refine Q.run zm209 2 (i' := 29) (ls' := [some (.ref 121), some (.int x1), some (.int r4), some (.int (1024 + r4))]) (st' := [.ref 121, .int (1024 + r4), .ref 133]) rfl ?_
  refine Q.map (A.gf (gI_of zm209 (e := (45, 3, .getfield 206, [9, 39])) rfl) (hl16.lt (a := 121) (by decide)) (hl16.T (a := 121) (p := (9, 45)) 43 rfl rfl) (by decide) rfl) ?_
  obtain ⟨hc17, h⟩ := ite_so h
  obtain ⟨s18, hs19, h⟩ := nx_so h
  refine Q.is hs19 rfl (gI_of zm209 (e := (48, 1, .iastore, [])) rfl) (hl16.lt (a := 133) (by decide)) (by decide) (hl16.T (a := 133) (p := (100, 1152)) 55 rfl rfl) hc17 ?_
  have hl20 : Ly tt cc s18 := by rw [hs19]; exact hl16.wId (by decide)
  refine Q.run zm209 1 (i' := 32) (ls' := [some (.ref 121), some (.int x1), some (.int r4), some (.int (1024 + r4))]) (st' := [.ref 121]) rfl ?_
  refine Q.map (A.gf (gI_of zm209 (e := (50, 3, .getfield 47, [9, 15])) rfl) (hl20.lt (a := 121) (by decide)) (hl20.T (a := 121) (p := (9, 45)) 43 rfl rfl) (by decide) (hl20.R 35 rfl)) ?_
  refine Q.run zm209 2 (i' := 35) (ls' := [some (.ref 121), some (.int x1), some (.int r4), some (.int (1024 + r4))]) (st' := [.ref 121, .int (1024 + r4), .ref 134]) rfl ?_
  refine Q.map (A.gf (gI_of zm209 (e := (55, 3, .getfield 203, [9, 40])) rfl) (hl20.lt (a := 121) (by decide)) (hl20.T (a := 121) (p := (9, 45)) 43 rfl rfl) (by decide) rfl) ?_
  obtain ⟨hc21, h⟩ := ite_so h
  obtain ⟨s22, hs23, h⟩ := nx_so h
  refine Q.is hs23 rfl (gI_of zm209 (e := (58, 1, .iastore, [])) rfl) (hl20.lt (a := 134) (by decide)) (by decide) (hl20.T (a := 134) (p := (100, 1152)) 56 rfl rfl) hc21 ?_
  have hl24 : Ly tt cc s22 := by rw [hs23]; exact hl20.wId (by decide)
  refine Q.run zm209 1 (i' := 38) (ls' := [some (.ref 121), some (.int x1), some (.int r4), some (.int (1024 + r4))]) (st' := [.ref 121]) rfl ?_
  refine Q.map (A.gf (gI_of zm209 (e := (60, 3, .getfield 50, [9, 16])) rfl) (hl24.lt (a := 121) (by decide)) (hl24.T (a := 121) (p := (9, 45)) 43 rfl rfl) (by decide) (hl24.R 36 rfl)) ?_
  refine Q.run zm209 2 (i' := 41) (ls' := [some (.ref 121), some (.int x1), some (.int r4), some (.int (1024 + r4))]) (st' := [.ref 121, .int (1024 + r4), .ref 135]) rfl ?_
  refine Q.map (A.gf (gI_of zm209 (e := (65, 3, .getfield 200, [9, 41])) rfl) (hl24.lt (a := 121) (by decide)) (hl24.T (a := 121) (p := (9, 45)) 43 rfl rfl) (by decide) rfl) ?_
  obtain ⟨hc25, h⟩ := ite_so h
  obtain ⟨s26, hs27, h⟩ := nx_so h
  refine Q.is hs27 rfl (gI_of zm209 (e := (68, 1, .iastore, [])) rfl) (hl24.lt (a := 135) (by decide)) (by decide) (hl24.T (a := 135) (p := (100, 1152)) 57 rfl rfl) hc25 ?_
  have hl28 : Ly tt cc s26 := by rw [hs27]; exact hl24.wId (by decide)
  refine Q.run zm209 2 (i' := 45) (ls' := [some (.ref 121), some (.int x1), some (.int r4), some (.int (1024 + r4))]) (st' := [.int r4, .ref 121]) rfl ?_
  obtain ⟨s31, hc30, h⟩ := bu_so h
  have hq29 : Q 2 sio tt cc d 194 0 [some (.ref 121), some (.int r4)] [] s26 (.inl none, s31) := dt194 (by omega) hl28  hc30
  refine Q.callV (gC_vi zm209 (show zM209.2.2.2.2.2[45]? = some (71, 3, .invokevirtual 161, [0, 194, 1, 9]) from rfl) zm194 (hl28.lt (a := 121) (by decide)) (hl28.T (a := 121) (p := (9, 45)) 43 rfl rfl) rfl (show aCr 1 121 [.int r4, .ref 121] 2 = some ([some (.ref 121), some (.int r4)], []) from rfl)) hq29 ?_
  refine Q.run zm209 2 (i' := 48) (ls' := [some (.ref 121), some (.int x1), some (.int r4), some (.int (1024 + r4))]) (st' := [.int r4, .ref 121]) rfl ?_
  obtain ⟨s32, hs33, h⟩ := nx_so h
  refine Q.pf hs33 rfl (gI_of zm209 (e := (76, 3, .putfield 213, [9, 34, 0])) rfl) (hq29.1.lt (a := 121) (by decide)) (by decide) (hq29.1.T (a := 121) (p := (9, 45)) 43 rfl rfl) (by decide) rfl rfl ?_
  have hl34 : Ly tt cc s32 := by rw [hs33]; exact hq29.1.wId (by decide)
  cases h
  exact Q.ret (A.rv zm209 (show zM209.2.2.2.2.2[49]? = some (79, 1, .return_, []) from rfl) rfl) hl34
/-! 206 FormulaTreesModel.readSheetCell(II)V -/
set_option maxRecDepth 100000 in
theorem zm206 : zP[206]? = some zM206 := rfl
def dm206 (x1 : Int32) (x2 : Int32) (s : aS) : Option (aS) :=
  if 0 ≤ x1 then
    nx (wI s 121 26 ((sI s 121 26) + 1)) fun s2 =>
    bu (dm207 s2) fun s7 =>
    if (sI s7 121 27) = 0 then
      bu (dm209 x1 s7) fun s11 =>
      some s11
    else
      some s7
  else
    bu (dm186 x2 s) fun s14 =>
    some s14
set_option maxRecDepth 100000 in
theorem dt206 {sio : Bool} {tt : Nat} {cc : Nat → Nat → Int32} {d : Nat} (hd : 3 ≤ d) {x1 : Int32} {x2 : Int32} {s : aS} (hl : Ly tt cc s) {o : aS} (h : dm206  x1 x2 s = some o) : Q 2 sio tt cc d 206 0 [some (.ref 121), some (.int x1), some (.int x2)] [] s (.inl none, o) := by
  unfold dm206 at h
  obtain ⟨d, rfl⟩ : ∃ e, d = e + 1 := ⟨d - 1, by omega⟩
  refine Q.run zm206 1 (i' := 1) (ls' := [some (.ref 121), some (.int x1), some (.int x2)]) (st' := [.int x1]) rfl ?_
  by_cases hc1 : 0 ≤ x1
  · rw [if_pos hc1] at h
    refine Q.map (A.zT (gI_of zm206 (e := (1, 3, .ifCond .ge 9, [6])) rfl) (decide_eq_true hc1)) ?_
    refine Q.run zm206 2 (i' := 8) (ls' := [some (.ref 121), some (.int x1), some (.int x2)]) (st' := [.ref 121, .ref 121]) rfl ?_
    refine Q.map (A.gf (gI_of zm206 (e := (12, 3, .getfield 138, [9, 26])) rfl) (hl.lt (a := 121) (by decide)) (hl.T (a := 121) (p := (9, 45)) 43 rfl rfl) (by decide) rfl) ?_
    refine Q.run zm206 2 (i' := 11) (ls' := [some (.ref 121), some (.int x1), some (.int x2)]) (st' := [.int ((sI s 121 26) + 1), .ref 121]) rfl ?_
    obtain ⟨s2, hs3, h⟩ := nx_so h
    refine Q.pf hs3 rfl (gI_of zm206 (e := (17, 3, .putfield 138, [9, 26, 0])) rfl) (hl.lt (a := 121) (by decide)) (by decide) (hl.T (a := 121) (p := (9, 45)) 43 rfl rfl) (by decide) rfl rfl ?_
    have hl4 : Ly tt cc s2 := by rw [hs3]; exact hl.wId (by decide)
    refine Q.run zm206 1 (i' := 13) (ls' := [some (.ref 121), some (.int x1), some (.int x2)]) (st' := [.ref 121]) rfl ?_
    obtain ⟨s7, hc6, h⟩ := bu_so h
    have hq5 : Q 2 sio tt cc d 207 0 [some (.ref 121), none] [] s2 (.inl none, s7) := dt207 (by omega) hl4  hc6
    refine Q.callV (gC_vi zm206 (show zM206.2.2.2.2.2[13]? = some (21, 3, .invokevirtual 216, [0, 207, 0, 9]) from rfl) zm207 (hl4.lt (a := 121) (by decide)) (hl4.T (a := 121) (p := (9, 45)) 43 rfl rfl) rfl (show aCr 0 121 [.ref 121] 2 = some ([some (.ref 121), none], []) from rfl)) hq5 ?_
    refine Q.run zm206 1 (i' := 15) (ls' := [some (.ref 121), some (.int x1), some (.int x2)]) (st' := [.ref 121]) rfl ?_
    refine Q.map (A.gf (gI_of zm206 (e := (25, 3, .getfield 134, [9, 27])) rfl) (hq5.1.lt (a := 121) (by decide)) (hq5.1.T (a := 121) (p := (9, 45)) 43 rfl rfl) (by decide) rfl) ?_
    by_cases hc8 : (sI s7 121 27) = 0
    · rw [if_pos hc8] at h
      refine Q.map (A.zF (gI_of zm206 (e := (28, 3, .ifCond .ne 8, [20])) rfl) (fun q => of_decide_eq_true q hc8)) ?_
      refine Q.run zm206 2 (i' := 19) (ls' := [some (.ref 121), some (.int x1), some (.int x2)]) (st' := [.int x1, .ref 121]) rfl ?_
      obtain ⟨s11, hc10, h⟩ := bu_so h
      have hq9 : Q 2 sio tt cc d 209 0 [some (.ref 121), some (.int x1), none, none] [] s7 (.inl none, s11) := dt209 (by omega) hq5.1  hc10
      refine Q.callV (gC_vi zm206 (show zM206.2.2.2.2.2[19]? = some (33, 3, .invokevirtual 231, [0, 209, 1, 9]) from rfl) zm209 (hq5.1.lt (a := 121) (by decide)) (hq5.1.T (a := 121) (p := (9, 45)) 43 rfl rfl) rfl (show aCr 1 121 [.int x1, .ref 121] 4 = some ([some (.ref 121), some (.int x1), none, none], []) from rfl)) hq9 ?_
      cases h
      exact Q.ret (A.rv zm206 (show zM206.2.2.2.2.2[20]? = some (36, 1, .return_, []) from rfl) rfl) hq9.1
    · rw [if_neg hc8] at h
      refine Q.map (A.zT (gI_of zm206 (e := (28, 3, .ifCond .ne 8, [20])) rfl) (decide_eq_true hc8)) ?_
      cases h
      exact Q.ret (A.rv zm206 (show zM206.2.2.2.2.2[20]? = some (36, 1, .return_, []) from rfl) rfl) hq5.1
  · rw [if_neg hc1] at h
    refine Q.map (A.zF (gI_of zm206 (e := (1, 3, .ifCond .ge 9, [6])) rfl) (fun q => hc1 (of_decide_eq_true q))) ?_
    refine Q.run zm206 2 (i' := 4) (ls' := [some (.ref 121), some (.int x1), some (.int x2)]) (st' := [.int x2, .ref 121]) rfl ?_
    obtain ⟨s14, hc13, h⟩ := bu_so h
    have hq12 : Q 2 sio tt cc d 186 0 [some (.ref 121), some (.int x2)] [] s (.inl none, s14) := dt186 (by omega) hl  hc13
    refine Q.callV (gC_vi zm206 (show zM206.2.2.2.2.2[4]? = some (6, 3, .invokevirtual 164, [0, 186, 1, 9]) from rfl) zm186 (hl.lt (a := 121) (by decide)) (hl.T (a := 121) (p := (9, 45)) 43 rfl rfl) rfl (show aCr 1 121 [.int x2, .ref 121] 2 = some ([some (.ref 121), some (.int x2)], []) from rfl)) hq12 ?_
    cases h
    exact Q.ret (A.rv zm206 (show zM206.2.2.2.2.2[5]? = some (9, 1, .return_, []) from rfl) rfl) hq12.1
/-! 205 FormulaTreesModel.readPrefix()V -/
set_option maxRecDepth 100000 in
theorem zm205 : zP[205]? = some zM205 := rfl
def dm205 (s : aS) : Option (aS) :=
  bu (dm202 39 s) fun s3 =>
  if (sI s3 121 27) = 0 then
    bu (dm176 (sI s3 121 26) s3) fun r7 =>
    if r7 = 33 then
      bu (dm177 147 0 (sI s3 121 38) s3) fun r11 =>
      bu (dm206 r11 (sI s 121 26) s3) fun s14 =>
      some s14
    else
      bu (dm186 (sI s3 121 26) s3) fun s17 =>
      some s17
  else
    some s3
set_option maxRecDepth 100000 in
theorem dt205 {sio : Bool} {tt : Nat} {cc : Nat → Nat → Int32} {d : Nat} (hd : 4 ≤ d) {s : aS} (hl : Ly tt cc s) {o : aS} (h : dm205  s = some o) : Q 2 sio tt cc d 205 0 [some (.ref 121), none] [] s (.inl none, o) := by
  unfold dm205 at h
  obtain ⟨d, rfl⟩ : ∃ e, d = e + 1 := ⟨d - 1, by omega⟩
  refine Q.run zm205 1 (i' := 1) (ls' := [some (.ref 121), none]) (st' := [.ref 121]) rfl ?_
  refine Q.map (A.gf (gI_of zm205 (e := (1, 3, .getfield 138, [9, 26])) rfl) (hl.lt (a := 121) (by decide)) (hl.T (a := 121) (p := (9, 45)) 43 rfl rfl) (by decide) rfl) ?_
  refine Q.run zm205 3 (i' := 5) (ls' := [some (.ref 121), some (.int (sI s 121 26))]) (st' := [.int 39, .ref 121]) rfl ?_
  obtain ⟨s3, hc2, h⟩ := bu_so h
  have hq1 : Q 2 sio tt cc d 202 0 [some (.ref 121), some (.int 39), none] [] s (.inl none, s3) := dt202 (by omega) hl  hc2
  refine Q.callV (gC_vi zm205 (show zM205.2.2.2.2.2[5]? = some (8, 3, .invokevirtual 177, [0, 202, 1, 9]) from rfl) zm202 (hl.lt (a := 121) (by decide)) (hl.T (a := 121) (p := (9, 45)) 43 rfl rfl) rfl (show aCr 1 121 [.int 39, .ref 121] 3 = some ([some (.ref 121), some (.int 39), none], []) from rfl)) hq1 ?_
  refine Q.run zm205 1 (i' := 7) (ls' := [some (.ref 121), some (.int (sI s 121 26))]) (st' := [.ref 121]) rfl ?_
  refine Q.map (A.gf (gI_of zm205 (e := (12, 3, .getfield 134, [9, 27])) rfl) (hq1.1.lt (a := 121) (by decide)) (hq1.1.T (a := 121) (p := (9, 45)) 43 rfl rfl) (by decide) rfl) ?_
  by_cases hc4 : (sI s3 121 27) = 0
  · rw [if_pos hc4] at h
    refine Q.map (A.zT (gI_of zm205 (e := (15, 3, .ifCond .eq 4, [10])) rfl) (decide_eq_true hc4)) ?_
    refine Q.run zm205 2 (i' := 12) (ls' := [some (.ref 121), some (.int (sI s 121 26))]) (st' := [.ref 121, .ref 121]) rfl ?_
    refine Q.map (A.gf (gI_of zm205 (e := (21, 3, .getfield 138, [9, 26])) rfl) (hq1.1.lt (a := 121) (by decide)) (hq1.1.T (a := 121) (p := (9, 45)) 43 rfl rfl) (by decide) rfl) ?_
    obtain ⟨r7, hc6, h⟩ := bu_so h
    have hq5 : Q 2 sio tt cc d 176 0 [some (.ref 121), some (.int (sI s3 121 26))] [] s3 (.inl (some (.int r7)), s3) := dt176 (by omega) hq1.1  hc6
    refine Q.callI (gC_vi zm205 (show zM205.2.2.2.2.2[13]? = some (24, 3, .invokevirtual 113, [0, 176, 1, 9]) from rfl) zm176 (hq1.1.lt (a := 121) (by decide)) (hq1.1.T (a := 121) (p := (9, 45)) 43 rfl rfl) rfl (show aCr 1 121 [.int (sI s3 121 26), .ref 121] 2 = some ([some (.ref 121), some (.int (sI s3 121 26))], []) from rfl)) hq5 ?_
    refine Q.run zm205 1 (i' := 15) (ls' := [some (.ref 121), some (.int (sI s 121 26))]) (st' := [.int 33, .int r7]) rfl ?_
    by_cases hc8 : r7 = 33
    · rw [if_pos hc8] at h
      refine Q.map (A.bT (gI_of zm205 (e := (29, 3, .if_icmp .eq 14, [21])) rfl) (decide_eq_true hc8)) ?_
      refine Q.run zm205 3 (i' := 24) (ls' := [some (.ref 121), some (.int (sI s 121 26))]) (st' := [.ref 121, .ref 121, .ref 121]) rfl ?_
      refine Q.map (A.gf (gI_of zm205 (e := (46, 3, .getfield 86, [9, 37])) rfl) (hq1.1.lt (a := 121) (by decide)) (hq1.1.T (a := 121) (p := (9, 45)) 43 rfl rfl) (by decide) (hq1.1.R 48 rfl)) ?_
      refine Q.run zm205 2 (i' := 27) (ls' := [some (.ref 121), some (.int (sI s 121 26))]) (st' := [.ref 121, .int 0, .ref 147, .ref 121, .ref 121]) rfl ?_
      refine Q.map (A.gf (gI_of zm205 (e := (51, 3, .getfield 174, [9, 38])) rfl) (hq1.1.lt (a := 121) (by decide)) (hq1.1.T (a := 121) (p := (9, 45)) 43 rfl rfl) (by decide) rfl) ?_
      obtain ⟨r11, hc10, h⟩ := bu_so h
      have hq9 : Q 2 sio tt cc d 177 0 [some (.ref 121), some (.ref 147), some (.int 0), some (.int (sI s3 121 38)), none, none, none] [] s3 (.inl (some (.int r11)), s3) := dt177 (by omega) hq1.1 (hq1.1.Kd (a := 147) (c := 100) (n := 256) 69 rfl rfl (by decide)) hc10
      refine Q.callI (gC_vi zm205 (show zM205.2.2.2.2.2[28]? = some (54, 3, .invokevirtual 120, [0, 177, 3, 9]) from rfl) zm177 (hq1.1.lt (a := 121) (by decide)) (hq1.1.T (a := 121) (p := (9, 45)) 43 rfl rfl) rfl (show aCr 3 121 [.int (sI s3 121 38), .int 0, .ref 147, .ref 121, .ref 121] 7 = some ([some (.ref 121), some (.ref 147), some (.int 0), some (.int (sI s3 121 38)), none, none, none], [.ref 121]) from rfl)) hq9 ?_
      refine Q.run zm205 1 (i' := 30) (ls' := [some (.ref 121), some (.int (sI s 121 26))]) (st' := [.int (sI s 121 26), .int r11, .ref 121]) rfl ?_
      obtain ⟨s14, hc13, h⟩ := bu_so h
      have hq12 : Q 2 sio tt cc d 206 0 [some (.ref 121), some (.int r11), some (.int (sI s 121 26))] [] s3 (.inl none, s14) := dt206 (by omega) hq1.1  hc13
      refine Q.callV (gC_vi zm205 (show zM205.2.2.2.2.2[30]? = some (58, 3, .invokevirtual 234, [0, 206, 2, 9]) from rfl) zm206 (hq1.1.lt (a := 121) (by decide)) (hq1.1.T (a := 121) (p := (9, 45)) 43 rfl rfl) rfl (show aCr 2 121 [.int (sI s 121 26), .int r11, .ref 121] 3 = some ([some (.ref 121), some (.int r11), some (.int (sI s 121 26))], []) from rfl)) hq12 ?_
      cases h
      exact Q.ret (A.rv zm205 (show zM205.2.2.2.2.2[31]? = some (61, 1, .return_, []) from rfl) rfl) hq12.1
    · rw [if_neg hc8] at h
      refine Q.map (A.bF (gI_of zm205 (e := (29, 3, .if_icmp .eq 14, [21])) rfl) (fun q => hc8 (of_decide_eq_true q))) ?_
      refine Q.run zm205 2 (i' := 18) (ls' := [some (.ref 121), some (.int (sI s 121 26))]) (st' := [.ref 121, .ref 121]) rfl ?_
      refine Q.map (A.gf (gI_of zm205 (e := (34, 3, .getfield 138, [9, 26])) rfl) (hq1.1.lt (a := 121) (by decide)) (hq1.1.T (a := 121) (p := (9, 45)) 43 rfl rfl) (by decide) rfl) ?_
      obtain ⟨s17, hc16, h⟩ := bu_so h
      have hq15 : Q 2 sio tt cc d 186 0 [some (.ref 121), some (.int (sI s3 121 26))] [] s3 (.inl none, s17) := dt186 (by omega) hq1.1  hc16
      refine Q.callV (gC_vi zm205 (show zM205.2.2.2.2.2[19]? = some (37, 3, .invokevirtual 164, [0, 186, 1, 9]) from rfl) zm186 (hq1.1.lt (a := 121) (by decide)) (hq1.1.T (a := 121) (p := (9, 45)) 43 rfl rfl) rfl (show aCr 1 121 [.int (sI s3 121 26), .ref 121] 2 = some ([some (.ref 121), some (.int (sI s3 121 26))], []) from rfl)) hq15 ?_
      refine Q.run zm205 1 (i' := 31) (ls' := [some (.ref 121), some (.int (sI s 121 26))]) (st' := []) rfl ?_
      cases h
      exact Q.ret (A.rv zm205 (show zM205.2.2.2.2.2[31]? = some (61, 1, .return_, []) from rfl) rfl) hq15.1
  · rw [if_neg hc4] at h
    refine Q.map (A.zF (gI_of zm205 (e := (15, 3, .ifCond .eq 4, [10])) rfl) (fun q => hc4 (of_decide_eq_true q))) ?_
    cases h
    exact Q.ret (A.rv zm205 (show zM205.2.2.2.2.2[9]? = some (18, 1, .return_, []) from rfl) rfl) hq1.1
/-! 211 FormulaTreesModel.goesOn(I)Z -/
set_option maxRecDepth 100000 in
theorem zm211 : zP[211]? = some zM211 := rfl
def dm211_9 : Option (Int32) :=
  some 1
set_option maxRecDepth 100000 in
theorem dt211_9 {sio : Bool} {tt : Nat} {cc : Nat → Nat → Int32} {d : Nat} (hd : 2 ≤ d) {x0 : Int32} {s : aS} (hl : Ly tt cc s) {o : Int32} (h : dm211_9   = some o) : Q 2 sio tt cc d 211 9 [some (.int x0)] [] s (.inl (some (.int o)), s) := by
  unfold dm211_9 at h
  obtain ⟨d, rfl⟩ : ∃ e, d = e + 1 := ⟨d - 1, by omega⟩
  refine Q.run zm211 2 (i' := 12) (ls' := [some (.int x0)]) (st' := [.int 1]) rfl ?_
  cases h
  exact Q.ret (A.ri zm211 (show zM211.2.2.2.2.2[12]? = some (25, 1, .ireturn, []) from rfl) rfl rfl) hl
def dm211 (x0 : Int32) : Option (Int32) :=
  bu (dm197 x0) fun r3 =>
  if r3 = 0 then
    bu (dm196 x0) fun r7 =>
    if r7 = 0 then
      if x0 = 46 then
        dm211_9 
      else
        some 0
    else
      dm211_9 
  else
    dm211_9 
set_option maxRecDepth 100000 in
theorem dt211 {sio : Bool} {tt : Nat} {cc : Nat → Nat → Int32} {d : Nat} (hd : 2 ≤ d) {x0 : Int32} {s : aS} (hl : Ly tt cc s) {o : Int32} (h : dm211  x0 = some o) : Q 2 sio tt cc d 211 0 [some (.int x0)] [] s (.inl (some (.int o)), s) := by
  unfold dm211 at h
  obtain ⟨d, rfl⟩ : ∃ e, d = e + 1 := ⟨d - 1, by omega⟩
  refine Q.run zm211 1 (i' := 1) (ls' := [some (.int x0)]) (st' := [.int x0]) rfl ?_
  obtain ⟨r3, hc2, h⟩ := bu_so h
  have hq1 : Q 2 sio tt cc d 197 0 [some (.int x0)] [] s (.inl (some (.int r3)), s) := dt197 (by omega) hl  hc2
  refine Q.callI (gC_st zm211 (show zM211.2.2.2.2.2[1]? = some (1, 3, .invokestatic 97, [0, 197, 1]) from rfl) zm197 (show aC 1 [.int x0] 1 = some ([some (.int x0)], []) from rfl)) hq1 ?_
  by_cases hc4 : r3 = 0
  · rw [if_pos hc4] at h
    refine Q.map (A.zF (gI_of zm211 (e := (4, 3, .ifCond .ne 16, [9])) rfl) (fun q => of_decide_eq_true q hc4)) ?_
    refine Q.run zm211 1 (i' := 4) (ls' := [some (.int x0)]) (st' := [.int x0]) rfl ?_
    obtain ⟨r7, hc6, h⟩ := bu_so h
    have hq5 : Q 2 sio tt cc d 196 0 [some (.int x0)] [] s (.inl (some (.int r7)), s) := dt196 (by omega) hl  hc6
    refine Q.callI (gC_st zm211 (show zM211.2.2.2.2.2[4]? = some (8, 3, .invokestatic 100, [0, 196, 1]) from rfl) zm196 (show aC 1 [.int x0] 1 = some ([some (.int x0)], []) from rfl)) hq5 ?_
    by_cases hc8 : r7 = 0
    · rw [if_pos hc8] at h
      refine Q.map (A.zF (gI_of zm211 (e := (11, 3, .ifCond .ne 9, [9])) rfl) (fun q => of_decide_eq_true q hc8)) ?_
      refine Q.run zm211 2 (i' := 8) (ls' := [some (.int x0)]) (st' := [.int 46, .int x0]) rfl ?_
      by_cases hc9 : x0 = 46
      · rw [if_pos hc9] at h
        refine Q.map (A.bF (gI_of zm211 (e := (17, 3, .if_icmp .ne 7, [11])) rfl) (fun q => of_decide_eq_true q hc9)) ?_
        exact dt211_9 hd hl  h
      · rw [if_neg hc9] at h
        refine Q.map (A.bT (gI_of zm211 (e := (17, 3, .if_icmp .ne 7, [11])) rfl) (decide_eq_true hc9)) ?_
        refine Q.run zm211 1 (i' := 12) (ls' := [some (.int x0)]) (st' := [.int 0]) rfl ?_
        cases h
        exact Q.ret (A.ri zm211 (show zM211.2.2.2.2.2[12]? = some (25, 1, .ireturn, []) from rfl) rfl rfl) hl
    · rw [if_neg hc8] at h
      refine Q.map (A.zT (gI_of zm211 (e := (11, 3, .ifCond .ne 9, [9])) rfl) (decide_eq_true hc8)) ?_
      exact dt211_9 hd hl  h
  · rw [if_neg hc4] at h
    refine Q.map (A.zT (gI_of zm211 (e := (4, 3, .ifCond .ne 16, [9])) rfl) (decide_eq_true hc4)) ?_
    exact dt211_9 hd hl  h
/-! 212 FormulaTreesModel.lettersOf(II)I -/
set_option maxRecDepth 100000 in
theorem zm212 : zP[212]? = some zM212 := rfl
def dm212_2 : Nat → Int32 → Int32 → Int32 → aS → Option (Int32)
  | 0, _, _, _, _ => none
  | n + 1, x1, x2, x3, s =>
    if x2 ≤ (x1 + x3) then
      some x3
    else
      if aB (x1 + x3) 256 then
        bu (dm198 (sI s 122 (jN (x1 + x3)))) fun r5 =>
        if r5 = 0 then
          some x3
        else
          dm212_2 n x1 x2 (x3 + 1) s
      else none
set_option maxRecDepth 100000 in
theorem dt212_2 {sio : Bool} {tt : Nat} {cc : Nat → Nat → Int32} {d : Nat} (hd : 1 ≤ d) : ∀ (n : Nat) {x1 : Int32} {x2 : Int32} {x3 : Int32} {s : aS} (_ : Ly tt cc s) {o : Int32} (_ : dm212_2  n x1 x2 x3 s = some o), Q 2 sio tt cc d 212 2 [some (.ref 121), some (.int x1), some (.int x2), some (.int x3)] [] s (.inl (some (.int o)), s) := by
  obtain ⟨d, rfl⟩ : ∃ e, d = e + 1 := ⟨d - 1, by omega⟩
  intro n
  induction n with
  | zero => intro x1 x2 x3 s hl o h; rw [dm212_2] at h; cases h
  | succ n ih =>
    intro x1 x2 x3 s hl o h
    rw [dm212_2] at h
    refine Q.run zm212 4 (i' := 6) (ls' := [some (.ref 121), some (.int x1), some (.int x2), some (.int x3)]) (st' := [.int x2, .int (x1 + x3)]) rfl ?_
    by_cases hc1 : x2 ≤ (x1 + x3)
    · rw [if_pos hc1] at h
      refine Q.map (A.bT (gI_of zm212 (e := (6, 3, .if_icmp .ge 23, [17])) rfl) (decide_eq_true hc1)) ?_
      refine Q.run zm212 1 (i' := 18) (ls' := [some (.ref 121), some (.int x1), some (.int x2), some (.int x3)]) (st' := [.int x3]) rfl ?_
      cases h
      exact Q.ret (A.ri zm212 (show zM212.2.2.2.2.2[18]? = some (30, 1, .ireturn, []) from rfl) rfl rfl) hl
    · rw [if_neg hc1] at h
      refine Q.map (A.bF (gI_of zm212 (e := (6, 3, .if_icmp .ge 23, [17])) rfl) (fun q => hc1 (of_decide_eq_true q))) ?_
      refine Q.run zm212 1 (i' := 8) (ls' := [some (.ref 121), some (.int x1), some (.int x2), some (.int x3)]) (st' := [.ref 121]) rfl ?_
      refine Q.map (A.gf (gI_of zm212 (e := (10, 3, .getfield 7, [9, 2])) rfl) (hl.lt (a := 121) (by decide)) (hl.T (a := 121) (p := (9, 45)) 43 rfl rfl) (by decide) (hl.R 23 rfl)) ?_
      refine Q.run zm212 3 (i' := 12) (ls' := [some (.ref 121), some (.int x1), some (.int x2), some (.int x3)]) (st' := [.int (x1 + x3), .ref 122]) rfl ?_
      obtain ⟨hc2, h⟩ := ite_so h
      refine Q.map (A.ia (gI_of zm212 (e := (16, 1, .iaload, [])) rfl) (hl.lt (a := 122) (by decide)) (hl.T (a := 122) (p := (100, 256)) 44 rfl rfl) hc2) ?_
      obtain ⟨r5, hc4, h⟩ := bu_so h
      have hq3 : Q 2 sio tt cc d 198 0 [some (.int (sI s 122 (jN (x1 + x3))))] [] s (.inl (some (.int r5)), s) := dt198 (by omega) hl  hc4
      refine Q.callI (gC_st zm212 (show zM212.2.2.2.2.2[13]? = some (17, 3, .invokestatic 93, [0, 198, 1]) from rfl) zm198 (show aC 1 [.int (sI s 122 (jN (x1 + x3)))] 1 = some ([some (.int (sI s 122 (jN (x1 + x3))))], []) from rfl)) hq3 ?_
      by_cases hc6 : r5 = 0
      · rw [if_pos hc6] at h
        refine Q.map (A.zT (gI_of zm212 (e := (20, 3, .ifCond .eq 9, [17])) rfl) (decide_eq_true hc6)) ?_
        refine Q.run zm212 1 (i' := 18) (ls' := [some (.ref 121), some (.int x1), some (.int x2), some (.int x3)]) (st' := [.int x3]) rfl ?_
        cases h
        exact Q.ret (A.ri zm212 (show zM212.2.2.2.2.2[18]? = some (30, 1, .ireturn, []) from rfl) rfl rfl) hl
      · rw [if_neg hc6] at h
        refine Q.map (A.zF (gI_of zm212 (e := (20, 3, .ifCond .eq 9, [17])) rfl) (fun q => hc6 (of_decide_eq_true q))) ?_
        refine Q.run zm212 2 (i' := 2) (ls' := [some (.ref 121), some (.int x1), some (.int x2), some (.int (x3 + 1))]) (st' := []) rfl ?_
        exact ih hl  h
def dm212 (x1 : Int32) (x2 : Int32) (s : aS) : Option (Int32) :=
  dm212_2 5000 x1 x2 0 s
set_option maxRecDepth 100000 in
theorem dt212 {sio : Bool} {tt : Nat} {cc : Nat → Nat → Int32} {d : Nat} (hd : 1 ≤ d) {x1 : Int32} {x2 : Int32} {s : aS} (hl : Ly tt cc s) {o : Int32} (h : dm212  x1 x2 s = some o) : Q 2 sio tt cc d 212 0 [some (.ref 121), some (.int x1), some (.int x2), none] [] s (.inl (some (.int o)), s) := by
  unfold dm212 at h
  obtain ⟨d, rfl⟩ : ∃ e, d = e + 1 := ⟨d - 1, by omega⟩
  refine Q.run zm212 2 (i' := 2) (ls' := [some (.ref 121), some (.int x1), some (.int x2), some (.int 0)]) (st' := []) rfl ?_
  exact dt212_2 hd _ hl  h
end
section
/-! 213 FormulaTreesModel.columnOf(II)I -/
set_option maxRecDepth 100000 in
theorem zm213 : zP[213]? = some zM213 := rfl
def dm213_4 : Nat → Int32 → Int32 → Int32 → Int32 → aS → Option (Int32)
  | 0, _, _, _, _, _ => none
  | n + 1, x1, x2, x3, x4, s =>
    if x2 ≤ x4 then
      some x3
    else
      if 4 ≤ x4 then
        some x3
      else
        if aB (x1 + x4) 256 then
          bu (dm178 (sI s 122 (jN (x1 + x4)))) fun r6 =>
          dm213_4 n x1 x2 (((26 * x3) + r6) - 64) (x4 + 1) s
        else none
set_option maxRecDepth 100000 in
theorem dt213_4 {sio : Bool} {tt : Nat} {cc : Nat → Nat → Int32} {d : Nat} (hd : 1 ≤ d) : ∀ (n : Nat) {x1 : Int32} {x2 : Int32} {x3 : Int32} {x4 : Int32} {s : aS} (_ : Ly tt cc s) {o : Int32} (_ : dm213_4  n x1 x2 x3 x4 s = some o), Q 2 sio tt cc d 213 4 [some (.ref 121), some (.int x1), some (.int x2), some (.int x3), some (.int x4)] [] s (.inl (some (.int o)), s) := by
  obtain ⟨d, rfl⟩ : ∃ e, d = e + 1 := ⟨d - 1, by omega⟩
  intro n
  induction n with
  | zero => intro x1 x2 x3 x4 s hl o h; rw [dm213_4] at h; cases h
  | succ n ih =>
    intro x1 x2 x3 x4 s hl o h
    rw [dm213_4] at h
    refine Q.run zm213 2 (i' := 6) (ls' := [some (.ref 121), some (.int x1), some (.int x2), some (.int x3), some (.int x4)]) (st' := [.int x2, .int x4]) rfl ?_
    by_cases hc1 : x2 ≤ x4
    · rw [if_pos hc1] at h
      refine Q.map (A.bT (gI_of zm213 (e := (8, 3, .if_icmp .ge 36, [26])) rfl) (decide_eq_true hc1)) ?_
      refine Q.run zm213 1 (i' := 27) (ls' := [some (.ref 121), some (.int x1), some (.int x2), some (.int x3), some (.int x4)]) (st' := [.int x3]) rfl ?_
      cases h
      exact Q.ret (A.ri zm213 (show zM213.2.2.2.2.2[27]? = some (45, 1, .ireturn, []) from rfl) rfl rfl) hl
    · rw [if_neg hc1] at h
      refine Q.map (A.bF (gI_of zm213 (e := (8, 3, .if_icmp .ge 36, [26])) rfl) (fun q => hc1 (of_decide_eq_true q))) ?_
      refine Q.run zm213 2 (i' := 9) (ls' := [some (.ref 121), some (.int x1), some (.int x2), some (.int x3), some (.int x4)]) (st' := [.int 4, .int x4]) rfl ?_
      by_cases hc2 : 4 ≤ x4
      · rw [if_pos hc2] at h
        refine Q.map (A.bT (gI_of zm213 (e := (14, 3, .if_icmp .ge 30, [26])) rfl) (decide_eq_true hc2)) ?_
        refine Q.run zm213 1 (i' := 27) (ls' := [some (.ref 121), some (.int x1), some (.int x2), some (.int x3), some (.int x4)]) (st' := [.int x3]) rfl ?_
        cases h
        exact Q.ret (A.ri zm213 (show zM213.2.2.2.2.2[27]? = some (45, 1, .ireturn, []) from rfl) rfl rfl) hl
      · rw [if_neg hc2] at h
        refine Q.map (A.bF (gI_of zm213 (e := (14, 3, .if_icmp .ge 30, [26])) rfl) (fun q => hc2 (of_decide_eq_true q))) ?_
        refine Q.run zm213 4 (i' := 14) (ls' := [some (.ref 121), some (.int x1), some (.int x2), some (.int x3), some (.int x4)]) (st' := [.ref 121, .int (26 * x3)]) rfl ?_
        refine Q.map (A.gf (gI_of zm213 (e := (22, 3, .getfield 7, [9, 2])) rfl) (hl.lt (a := 121) (by decide)) (hl.T (a := 121) (p := (9, 45)) 43 rfl rfl) (by decide) (hl.R 23 rfl)) ?_
        refine Q.run zm213 3 (i' := 18) (ls' := [some (.ref 121), some (.int x1), some (.int x2), some (.int x3), some (.int x4)]) (st' := [.int (x1 + x4), .ref 122, .int (26 * x3)]) rfl ?_
        obtain ⟨hc3, h⟩ := ite_so h
        refine Q.map (A.ia (gI_of zm213 (e := (29, 1, .iaload, [])) rfl) (hl.lt (a := 122) (by decide)) (hl.T (a := 122) (p := (100, 256)) 44 rfl rfl) hc3) ?_
        obtain ⟨r6, hc5, h⟩ := bu_so h
        have hq4 : Q 2 sio tt cc d 178 0 [some (.int (sI s 122 (jN (x1 + x4))))] [] s (.inl (some (.int r6)), s) := dt178 (by omega) hl  hc5
        refine Q.callI (gC_st zm213 (show zM213.2.2.2.2.2[19]? = some (30, 3, .invokestatic 109, [0, 178, 1]) from rfl) zm178 (show aC 1 [.int (sI s 122 (jN (x1 + x4))), .int (26 * x3)] 1 = some ([some (.int (sI s 122 (jN (x1 + x4))))], [.int (26 * x3)]) from rfl)) hq4 ?_
        refine Q.run zm213 6 (i' := 4) (ls' := [some (.ref 121), some (.int x1), some (.int x2), some (.int (((26 * x3) + r6) - 64)), some (.int (x4 + 1))]) (st' := []) rfl ?_
        exact ih hl  h
def dm213 (x1 : Int32) (x2 : Int32) (s : aS) : Option (Int32) :=
  dm213_4 5000 x1 x2 0 0 s
set_option maxRecDepth 100000 in
theorem dt213 {sio : Bool} {tt : Nat} {cc : Nat → Nat → Int32} {d : Nat} (hd : 1 ≤ d) {x1 : Int32} {x2 : Int32} {s : aS} (hl : Ly tt cc s) {o : Int32} (h : dm213  x1 x2 s = some o) : Q 2 sio tt cc d 213 0 [some (.ref 121), some (.int x1), some (.int x2), none, none] [] s (.inl (some (.int o)), s) := by
  unfold dm213 at h
  obtain ⟨d, rfl⟩ : ∃ e, d = e + 1 := ⟨d - 1, by omega⟩
  refine Q.run zm213 4 (i' := 4) (ls' := [some (.ref 121), some (.int x1), some (.int x2), some (.int 0), some (.int 0)]) (st' := []) rfl ?_
  exact dt213_4 hd _ hl  h
/-! 214 FormulaTreesModel.isCell(II)Z -/
set_option maxRecDepth 100000 in
theorem zm214 : zP[214]? = some zM214 := rfl
def dm214_41 : Nat → Int32 → Int32 → Int32 → Int32 → Int32 → aS → Option (Int32 × aS)
  | 0, _, _, _, _, _, _ => none
  | n + 1, x1, x2, x3, x4, x5, s =>
    if x2 ≤ x5 then
      nx (wI s 121 41 0) fun s2 =>
      nx (wI s2 121 39 x4) fun s5 =>
      bu (dm213 x1 x3 s5) fun r10 =>
      nx (wI s5 121 40 r10) fun s11 =>
      if 1048576 < x4 then
        some (0, s11)
      else
        if 16384 < (sI s11 121 40) then
          some (0, s11)
        else
          some (1, s11)
    else
      if aB x5 256 then
        bu (dm196 (sI s 122 (jN x5))) fun r19 =>
        if r19 = 0 then
          some (0, s)
        else
          if aB x5 256 then
            dm214_41 n x1 x2 x3 (((10 * x4) + (sI s 122 (jN x5))) - 48) (x5 + 1) s
          else none
      else none
set_option maxRecDepth 100000 in
theorem dt214_41 {sio : Bool} {tt : Nat} {cc : Nat → Nat → Int32} {d : Nat} (hd : 2 ≤ d) : ∀ (n : Nat) {x1 : Int32} {x2 : Int32} {x3 : Int32} {x4 : Int32} {x5 : Int32} {s : aS} (_ : Ly tt cc s) {o : Int32 × aS} (_ : dm214_41  n x1 x2 x3 x4 x5 s = some o), Q 2 sio tt cc d 214 41 [some (.ref 121), some (.int x1), some (.int x2), some (.int x3), some (.int x4), some (.int x5)] [] s (.inl (some (.int o.1)), o.2) := by
  obtain ⟨d, rfl⟩ : ∃ e, d = e + 1 := ⟨d - 1, by omega⟩
  intro n
  induction n with
  | zero => intro x1 x2 x3 x4 x5 s hl o h; rw [dm214_41] at h; cases h
  | succ n ih =>
    intro x1 x2 x3 x4 x5 s hl o h
    rw [dm214_41] at h
    refine Q.run zm214 2 (i' := 43) (ls' := [some (.ref 121), some (.int x1), some (.int x2), some (.int x3), some (.int x4), some (.int x5)]) (st' := [.int x2, .int x5]) rfl ?_
    by_cases hc1 : x2 ≤ x5
    · rw [if_pos hc1] at h
      refine Q.map (A.bT (gI_of zm214 (e := (62, 3, .if_icmp .ge 42, [65])) rfl) (decide_eq_true hc1)) ?_
      refine Q.run zm214 2 (i' := 67) (ls' := [some (.ref 121), some (.int x1), some (.int x2), some (.int x3), some (.int x4), some (.int x5)]) (st' := [.int 0, .ref 121]) rfl ?_
      obtain ⟨s2, hs3, h⟩ := nx_so h
      refine Q.pf hs3 rfl (gI_of zm214 (e := (106, 3, .putfield 200, [9, 41, 0])) rfl) (hl.lt (a := 121) (by decide)) (by decide) (hl.T (a := 121) (p := (9, 45)) 43 rfl rfl) (by decide) rfl rfl ?_
      have hl4 : Ly tt cc s2 := by rw [hs3]; exact hl.wId (by decide)
      refine Q.run zm214 2 (i' := 70) (ls' := [some (.ref 121), some (.int x1), some (.int x2), some (.int x3), some (.int x4), some (.int x5)]) (st' := [.int x4, .ref 121]) rfl ?_
      obtain ⟨s5, hs6, h⟩ := nx_so h
      refine Q.pf hs6 rfl (gI_of zm214 (e := (112, 3, .putfield 206, [9, 39, 0])) rfl) (hl4.lt (a := 121) (by decide)) (by decide) (hl4.T (a := 121) (p := (9, 45)) 43 rfl rfl) (by decide) rfl rfl ?_
      have hl7 : Ly tt cc s5 := by rw [hs6]; exact hl4.wId (by decide)
      refine Q.run zm214 4 (i' := 75) (ls' := [some (.ref 121), some (.int x1), some (.int x2), some (.int x3), some (.int x4), some (.int x5)]) (st' := [.int x3, .int x1, .ref 121, .ref 121]) rfl ?_
      obtain ⟨r10, hc9, h⟩ := bu_so h
      have hq8 : Q 2 sio tt cc d 213 0 [some (.ref 121), some (.int x1), some (.int x3), none, none] [] s5 (.inl (some (.int r10)), s5) := dt213 (by omega) hl7  hc9
      refine Q.callI (gC_vi zm214 (show zM214.2.2.2.2.2[75]? = some (119, 3, .invokevirtual 225, [0, 213, 2, 9]) from rfl) zm213 (hl7.lt (a := 121) (by decide)) (hl7.T (a := 121) (p := (9, 45)) 43 rfl rfl) rfl (show aCr 2 121 [.int x3, .int x1, .ref 121, .ref 121] 5 = some ([some (.ref 121), some (.int x1), some (.int x3), none, none], [.ref 121]) from rfl)) hq8 ?_
      obtain ⟨s11, hs12, h⟩ := nx_so h
      refine Q.pf hs12 rfl (gI_of zm214 (e := (122, 3, .putfield 203, [9, 40, 0])) rfl) (hl7.lt (a := 121) (by decide)) (by decide) (hl7.T (a := 121) (p := (9, 45)) 43 rfl rfl) (by decide) rfl rfl ?_
      have hl13 : Ly tt cc s11 := by rw [hs12]; exact hl7.wId (by decide)
      refine Q.run zm214 2 (i' := 79) (ls' := [some (.ref 121), some (.int x1), some (.int x2), some (.int x3), some (.int x4), some (.int x5)]) (st' := [.int 1048576, .int x4]) rfl ?_
      by_cases hc14 : 1048576 < x4
      · rw [if_pos hc14] at h
        refine Q.map (A.bT (gI_of zm214 (e := (129, 3, .if_icmp .gt 17, [86])) rfl) (decide_eq_true hc14)) ?_
        refine Q.run zm214 1 (i' := 87) (ls' := [some (.ref 121), some (.int x1), some (.int x2), some (.int x3), some (.int x4), some (.int x5)]) (st' := [.int 0]) rfl ?_
        cases h
        exact Q.ret (A.ri zm214 (show zM214.2.2.2.2.2[87]? = some (147, 1, .ireturn, []) from rfl) rfl rfl) hl13
      · rw [if_neg hc14] at h
        refine Q.map (A.bF (gI_of zm214 (e := (129, 3, .if_icmp .gt 17, [86])) rfl) (fun q => hc14 (of_decide_eq_true q))) ?_
        refine Q.run zm214 1 (i' := 81) (ls' := [some (.ref 121), some (.int x1), some (.int x2), some (.int x3), some (.int x4), some (.int x5)]) (st' := [.ref 121]) rfl ?_
        refine Q.map (A.gf (gI_of zm214 (e := (133, 3, .getfield 203, [9, 40])) rfl) (hl13.lt (a := 121) (by decide)) (hl13.T (a := 121) (p := (9, 45)) 43 rfl rfl) (by decide) rfl) ?_
        refine Q.run zm214 1 (i' := 83) (ls' := [some (.ref 121), some (.int x1), some (.int x2), some (.int x3), some (.int x4), some (.int x5)]) (st' := [.int 16384, .int (sI s11 121 40)]) rfl ?_
        by_cases hc15 : 16384 < (sI s11 121 40)
        · rw [if_pos hc15] at h
          refine Q.map (A.bT (gI_of zm214 (e := (139, 3, .if_icmp .gt 7, [86])) rfl) (decide_eq_true hc15)) ?_
          refine Q.run zm214 1 (i' := 87) (ls' := [some (.ref 121), some (.int x1), some (.int x2), some (.int x3), some (.int x4), some (.int x5)]) (st' := [.int 0]) rfl ?_
          cases h
          exact Q.ret (A.ri zm214 (show zM214.2.2.2.2.2[87]? = some (147, 1, .ireturn, []) from rfl) rfl rfl) hl13
        · rw [if_neg hc15] at h
          refine Q.map (A.bF (gI_of zm214 (e := (139, 3, .if_icmp .gt 7, [86])) rfl) (fun q => hc15 (of_decide_eq_true q))) ?_
          refine Q.run zm214 2 (i' := 87) (ls' := [some (.ref 121), some (.int x1), some (.int x2), some (.int x3), some (.int x4), some (.int x5)]) (st' := [.int 1]) rfl ?_
          cases h
          exact Q.ret (A.ri zm214 (show zM214.2.2.2.2.2[87]? = some (147, 1, .ireturn, []) from rfl) rfl rfl) hl13
    · rw [if_neg hc1] at h
      refine Q.map (A.bF (gI_of zm214 (e := (62, 3, .if_icmp .ge 42, [65])) rfl) (fun q => hc1 (of_decide_eq_true q))) ?_
      refine Q.run zm214 1 (i' := 45) (ls' := [some (.ref 121), some (.int x1), some (.int x2), some (.int x3), some (.int x4), some (.int x5)]) (st' := [.ref 121]) rfl ?_
      refine Q.map (A.gf (gI_of zm214 (e := (66, 3, .getfield 7, [9, 2])) rfl) (hl.lt (a := 121) (by decide)) (hl.T (a := 121) (p := (9, 45)) 43 rfl rfl) (by decide) (hl.R 23 rfl)) ?_
      refine Q.run zm214 1 (i' := 47) (ls' := [some (.ref 121), some (.int x1), some (.int x2), some (.int x3), some (.int x4), some (.int x5)]) (st' := [.int x5, .ref 122]) rfl ?_
      obtain ⟨hc16, h⟩ := ite_so h
      refine Q.map (A.ia (gI_of zm214 (e := (71, 1, .iaload, [])) rfl) (hl.lt (a := 122) (by decide)) (hl.T (a := 122) (p := (100, 256)) 44 rfl rfl) hc16) ?_
      obtain ⟨r19, hc18, h⟩ := bu_so h
      have hq17 : Q 2 sio tt cc d 196 0 [some (.int (sI s 122 (jN x5)))] [] s (.inl (some (.int r19)), s) := dt196 (by omega) hl  hc18
      refine Q.callI (gC_st zm214 (show zM214.2.2.2.2.2[48]? = some (72, 3, .invokestatic 100, [0, 196, 1]) from rfl) zm196 (show aC 1 [.int (sI s 122 (jN x5))] 1 = some ([some (.int (sI s 122 (jN x5)))], []) from rfl)) hq17 ?_
      by_cases hc20 : r19 = 0
      · rw [if_pos hc20] at h
        refine Q.map (A.zF (gI_of zm214 (e := (75, 3, .ifCond .ne 5, [52])) rfl) (fun q => of_decide_eq_true q hc20)) ?_
        refine Q.run zm214 1 (i' := 51) (ls' := [some (.ref 121), some (.int x1), some (.int x2), some (.int x3), some (.int x4), some (.int x5)]) (st' := [.int 0]) rfl ?_
        cases h
        exact Q.ret (A.ri zm214 (show zM214.2.2.2.2.2[51]? = some (79, 1, .ireturn, []) from rfl) rfl rfl) hl
      · rw [if_neg hc20] at h
        refine Q.map (A.zT (gI_of zm214 (e := (75, 3, .ifCond .ne 5, [52])) rfl) (decide_eq_true hc20)) ?_
        refine Q.run zm214 4 (i' := 56) (ls' := [some (.ref 121), some (.int x1), some (.int x2), some (.int x3), some (.int x4), some (.int x5)]) (st' := [.ref 121, .int (10 * x4)]) rfl ?_
        refine Q.map (A.gf (gI_of zm214 (e := (86, 3, .getfield 7, [9, 2])) rfl) (hl.lt (a := 121) (by decide)) (hl.T (a := 121) (p := (9, 45)) 43 rfl rfl) (by decide) (hl.R 23 rfl)) ?_
        refine Q.run zm214 1 (i' := 58) (ls' := [some (.ref 121), some (.int x1), some (.int x2), some (.int x3), some (.int x4), some (.int x5)]) (st' := [.int x5, .ref 122, .int (10 * x4)]) rfl ?_
        obtain ⟨hc21, h⟩ := ite_so h
        refine Q.map (A.ia (gI_of zm214 (e := (91, 1, .iaload, [])) rfl) (hl.lt (a := 122) (by decide)) (hl.T (a := 122) (p := (100, 256)) 44 rfl rfl) hc21) ?_
        refine Q.run zm214 6 (i' := 41) (ls' := [some (.ref 121), some (.int x1), some (.int x2), some (.int x3), some (.int (((10 * x4) + (sI s 122 (jN x5))) - 48)), some (.int (x5 + 1))]) (st' := []) rfl ?_
        exact ih hl  h
def dm214 (x1 : Int32) (x2 : Int32) (s : aS) : Option (Int32 × aS) :=
  bu (dm212 x1 x2 s) fun r3 =>
  if r3 < 1 then
    some (0, s)
  else
    if 3 < r3 then
      some (0, s)
    else
      if ((x2 - x1) - r3) < 1 then
        some (0, s)
      else
        if 7 < ((x2 - x1) - r3) then
          some (0, s)
        else
          if aB (x1 + r3) 256 then
            if (sI s 122 (jN (x1 + r3))) = 48 then
              some (0, s)
            else
              dm214_41 5000 x1 x2 r3 0 (x1 + r3) s
          else none
set_option maxRecDepth 100000 in
theorem dt214 {sio : Bool} {tt : Nat} {cc : Nat → Nat → Int32} {d : Nat} (hd : 2 ≤ d) {x1 : Int32} {x2 : Int32} {s : aS} (hl : Ly tt cc s) {o : Int32 × aS} (h : dm214  x1 x2 s = some o) : Q 2 sio tt cc d 214 0 [some (.ref 121), some (.int x1), some (.int x2), none, none, none] [] s (.inl (some (.int o.1)), o.2) := by
  unfold dm214 at h
  obtain ⟨d, rfl⟩ : ∃ e, d = e + 1 := ⟨d - 1, by omega⟩
  refine Q.run zm214 3 (i' := 3) (ls' := [some (.ref 121), some (.int x1), some (.int x2), none, none, none]) (st' := [.int x2, .int x1, .ref 121]) rfl ?_
  obtain ⟨r3, hc2, h⟩ := bu_so h
  have hq1 : Q 2 sio tt cc d 212 0 [some (.ref 121), some (.int x1), some (.int x2), none] [] s (.inl (some (.int r3)), s) := dt212 (by omega) hl  hc2
  refine Q.callI (gC_vi zm214 (show zM214.2.2.2.2.2[3]? = some (3, 3, .invokevirtual 222, [0, 212, 2, 9]) from rfl) zm212 (hl.lt (a := 121) (by decide)) (hl.T (a := 121) (p := (9, 45)) 43 rfl rfl) rfl (show aCr 2 121 [.int x2, .int x1, .ref 121] 4 = some ([some (.ref 121), some (.int x1), some (.int x2), none], []) from rfl)) hq1 ?_
  refine Q.run zm214 3 (i' := 7) (ls' := [some (.ref 121), some (.int x1), some (.int x2), some (.int r3), none, none]) (st' := [.int 1, .int r3]) rfl ?_
  by_cases hc4 : r3 < 1
  · rw [if_pos hc4] at h
    refine Q.map (A.bT (gI_of zm214 (e := (9, 3, .if_icmp .lt 40, [33])) rfl) (decide_eq_true hc4)) ?_
    refine Q.run zm214 1 (i' := 34) (ls' := [some (.ref 121), some (.int x1), some (.int x2), some (.int r3), none, none]) (st' := [.int 0]) rfl ?_
    cases h
    exact Q.ret (A.ri zm214 (show zM214.2.2.2.2.2[34]? = some (50, 1, .ireturn, []) from rfl) rfl rfl) hl
  · rw [if_neg hc4] at h
    refine Q.map (A.bF (gI_of zm214 (e := (9, 3, .if_icmp .lt 40, [33])) rfl) (fun q => hc4 (of_decide_eq_true q))) ?_
    refine Q.run zm214 2 (i' := 10) (ls' := [some (.ref 121), some (.int x1), some (.int x2), some (.int r3), none, none]) (st' := [.int 3, .int r3]) rfl ?_
    by_cases hc5 : 3 < r3
    · rw [if_pos hc5] at h
      refine Q.map (A.bT (gI_of zm214 (e := (14, 3, .if_icmp .gt 35, [33])) rfl) (decide_eq_true hc5)) ?_
      refine Q.run zm214 1 (i' := 34) (ls' := [some (.ref 121), some (.int x1), some (.int x2), some (.int r3), none, none]) (st' := [.int 0]) rfl ?_
      cases h
      exact Q.ret (A.ri zm214 (show zM214.2.2.2.2.2[34]? = some (50, 1, .ireturn, []) from rfl) rfl rfl) hl
    · rw [if_neg hc5] at h
      refine Q.map (A.bF (gI_of zm214 (e := (14, 3, .if_icmp .gt 35, [33])) rfl) (fun q => hc5 (of_decide_eq_true q))) ?_
      refine Q.run zm214 6 (i' := 17) (ls' := [some (.ref 121), some (.int x1), some (.int x2), some (.int r3), none, none]) (st' := [.int 1, .int ((x2 - x1) - r3)]) rfl ?_
      by_cases hc6 : ((x2 - x1) - r3) < 1
      · rw [if_pos hc6] at h
        refine Q.map (A.bT (gI_of zm214 (e := (23, 3, .if_icmp .lt 26, [33])) rfl) (decide_eq_true hc6)) ?_
        refine Q.run zm214 1 (i' := 34) (ls' := [some (.ref 121), some (.int x1), some (.int x2), some (.int r3), none, none]) (st' := [.int 0]) rfl ?_
        cases h
        exact Q.ret (A.ri zm214 (show zM214.2.2.2.2.2[34]? = some (50, 1, .ireturn, []) from rfl) rfl rfl) hl
      · rw [if_neg hc6] at h
        refine Q.map (A.bF (gI_of zm214 (e := (23, 3, .if_icmp .lt 26, [33])) rfl) (fun q => hc6 (of_decide_eq_true q))) ?_
        refine Q.run zm214 6 (i' := 24) (ls' := [some (.ref 121), some (.int x1), some (.int x2), some (.int r3), none, none]) (st' := [.int 7, .int ((x2 - x1) - r3)]) rfl ?_
        by_cases hc7 : 7 < ((x2 - x1) - r3)
        · rw [if_pos hc7] at h
          refine Q.map (A.bT (gI_of zm214 (e := (33, 3, .if_icmp .gt 16, [33])) rfl) (decide_eq_true hc7)) ?_
          refine Q.run zm214 1 (i' := 34) (ls' := [some (.ref 121), some (.int x1), some (.int x2), some (.int r3), none, none]) (st' := [.int 0]) rfl ?_
          cases h
          exact Q.ret (A.ri zm214 (show zM214.2.2.2.2.2[34]? = some (50, 1, .ireturn, []) from rfl) rfl rfl) hl
        · rw [if_neg hc7] at h
          refine Q.map (A.bF (gI_of zm214 (e := (33, 3, .if_icmp .gt 16, [33])) rfl) (fun q => hc7 (of_decide_eq_true q))) ?_
          refine Q.run zm214 1 (i' := 26) (ls' := [some (.ref 121), some (.int x1), some (.int x2), some (.int r3), none, none]) (st' := [.ref 121]) rfl ?_
          refine Q.map (A.gf (gI_of zm214 (e := (37, 3, .getfield 7, [9, 2])) rfl) (hl.lt (a := 121) (by decide)) (hl.T (a := 121) (p := (9, 45)) 43 rfl rfl) (by decide) (hl.R 23 rfl)) ?_
          refine Q.run zm214 3 (i' := 30) (ls' := [some (.ref 121), some (.int x1), some (.int x2), some (.int r3), none, none]) (st' := [.int (x1 + r3), .ref 122]) rfl ?_
          obtain ⟨hc8, h⟩ := ite_so h
          refine Q.map (A.ia (gI_of zm214 (e := (43, 1, .iaload, [])) rfl) (hl.lt (a := 122) (by decide)) (hl.T (a := 122) (p := (100, 256)) 44 rfl rfl) hc8) ?_
          refine Q.run zm214 1 (i' := 32) (ls' := [some (.ref 121), some (.int x1), some (.int x2), some (.int r3), none, none]) (st' := [.int 48, .int (sI s 122 (jN (x1 + r3)))]) rfl ?_
          by_cases hc9 : (sI s 122 (jN (x1 + r3))) = 48
          · rw [if_pos hc9] at h
            refine Q.map (A.bF (gI_of zm214 (e := (46, 3, .if_icmp .ne 5, [35])) rfl) (fun q => of_decide_eq_true q hc9)) ?_
            refine Q.run zm214 1 (i' := 34) (ls' := [some (.ref 121), some (.int x1), some (.int x2), some (.int r3), none, none]) (st' := [.int 0]) rfl ?_
            cases h
            exact Q.ret (A.ri zm214 (show zM214.2.2.2.2.2[34]? = some (50, 1, .ireturn, []) from rfl) rfl rfl) hl
          · rw [if_neg hc9] at h
            refine Q.map (A.bT (gI_of zm214 (e := (46, 3, .if_icmp .ne 5, [35])) rfl) (decide_eq_true hc9)) ?_
            refine Q.run zm214 6 (i' := 41) (ls' := [some (.ref 121), some (.int x1), some (.int x2), some (.int r3), some (.int 0), some (.int (x1 + r3))]) (st' := []) rfl ?_
            exact dt214_41 hd _ hl  h
/-! 215 FormulaTreesModel.isWord(IIJI)Z -/
set_option maxRecDepth 100000 in
theorem zm215 : zP[215]? = some zM215 := rfl
def dm215_39 (k11 : Int32 → Int64 → Int32 → Int32 → Int32 → aS → Option (Int32)) (x1 : Int32) (x3 : Int64) (x5 : Int32) (x7 : Int32) (y0 : Int32) (s : aS) : Option (Int32) :=
  k11 x1 x3 x5 y0 (x7 + 1) s
set_option maxRecDepth 100000 in
theorem dt215_39 {sio : Bool} {tt : Nat} {cc : Nat → Nat → Int32} {d : Nat} (hd : 1 ≤ d) {k11 : Int32 → Int64 → Int32 → Int32 → Int32 → aS → Option (Int32)} (hk11 : ∀ {x1 : Int32} {x3 : Int64} {x5 : Int32} {x6 : Int32} {x7 : Int32} {x2 : Int32} {s : aS}, Ly tt cc s → ∀ {o : Int32}, k11 x1 x3 x5 x6 x7 s = some o → Q 2 sio tt cc d 215 11 [some (.ref 121), some (.int x1), some (.int x2), some (.long x3), none, some (.int x5), some (.int x6), some (.int x7)] [] s (.inl (some (.int o)), s)) {x1 : Int32} {x3 : Int64} {x5 : Int32} {x7 : Int32} {y0 : Int32} {x2 : Int32} {x6 : Int32} {s : aS} (hl : Ly tt cc s) {o : Int32} (h : dm215_39 k11 x1 x3 x5 x7 y0 s = some o) : Q 2 sio tt cc d 215 39 [some (.ref 121), some (.int x1), some (.int x2), some (.long x3), none, some (.int x5), some (.int x6), some (.int x7)] [.int y0] s (.inl (some (.int o)), s) := by
  unfold dm215_39 at h
  obtain ⟨d, rfl⟩ : ∃ e, d = e + 1 := ⟨d - 1, by omega⟩
  refine Q.run zm215 3 (i' := 11) (ls' := [some (.ref 121), some (.int x1), some (.int x2), some (.long x3), none, some (.int x5), some (.int y0), some (.int (x7 + 1))]) (st' := []) rfl ?_
  exact hk11 hl  h
def dm215_11 : Nat → Int32 → Int64 → Int32 → Int32 → Int32 → aS → Option (Int32)
  | 0, _, _, _, _, _, _ => none
  | n + 1, x1, x3, x5, x6, x7, s =>
    if x5 ≤ x7 then
      if x6 = 0 ∨ x6 = 1 then
        some x6
      else none
    else
      if x6 = 0 then
        if x6 = 0 ∨ x6 = 1 then
          some x6
        else none
      else
        if aB (x1 + x7) 256 then
          bu (dm178 (sI s 122 (jN (x1 + x7)))) fun r8 =>
          if r8 = (((x3 >>> ((8 * ((x5 - 1) - x7)).toInt64 &&& 63)) &&& 255).toInt32) then
            dm215_39 (dm215_11 n) x1 x3 x5 x7 1 s
          else
            dm215_39 (dm215_11 n) x1 x3 x5 x7 0 s
        else none
set_option maxRecDepth 100000 in
theorem dt215_11 {sio : Bool} {tt : Nat} {cc : Nat → Nat → Int32} {d : Nat} (hd : 1 ≤ d) : ∀ (n : Nat) {x1 : Int32} {x3 : Int64} {x5 : Int32} {x6 : Int32} {x7 : Int32} {x2 : Int32} {s : aS} (_ : Ly tt cc s) {o : Int32} (_ : dm215_11  n x1 x3 x5 x6 x7 s = some o), Q 2 sio tt cc d 215 11 [some (.ref 121), some (.int x1), some (.int x2), some (.long x3), none, some (.int x5), some (.int x6), some (.int x7)] [] s (.inl (some (.int o)), s) := by
  obtain ⟨d, rfl⟩ : ∃ e, d = e + 1 := ⟨d - 1, by omega⟩
  intro n
  induction n with
  | zero => intro x1 x3 x5 x6 x7 x2 s hl o h; rw [dm215_11] at h; cases h
  | succ n ih =>
    intro x1 x3 x5 x6 x7 x2 s hl o h
    rw [dm215_11] at h
    refine Q.run zm215 2 (i' := 13) (ls' := [some (.ref 121), some (.int x1), some (.int x2), some (.long x3), none, some (.int x5), some (.int x6), some (.int x7)]) (st' := [.int x5, .int x7]) rfl ?_
    by_cases hc1 : x5 ≤ x7
    · rw [if_pos hc1] at h
      refine Q.map (A.bT (gI_of zm215 (e := (22, 3, .if_icmp .ge 53, [42])) rfl) (decide_eq_true hc1)) ?_
      refine Q.run zm215 1 (i' := 43) (ls' := [some (.ref 121), some (.int x1), some (.int x2), some (.long x3), none, some (.int x5), some (.int x6), some (.int x7)]) (st' := [.int x6]) rfl ?_
      obtain ⟨hc2, h⟩ := ite_so h
      cases h
      exact Q.ret (A.ri zm215 (show zM215.2.2.2.2.2[43]? = some (77, 1, .ireturn, []) from rfl) rfl (fit1 hc2)) hl
    · rw [if_neg hc1] at h
      refine Q.map (A.bF (gI_of zm215 (e := (22, 3, .if_icmp .ge 53, [42])) rfl) (fun q => hc1 (of_decide_eq_true q))) ?_
      refine Q.run zm215 1 (i' := 15) (ls' := [some (.ref 121), some (.int x1), some (.int x2), some (.long x3), none, some (.int x5), some (.int x6), some (.int x7)]) (st' := [.int x6]) rfl ?_
      by_cases hc3 : x6 = 0
      · rw [if_pos hc3] at h
        refine Q.map (A.zT (gI_of zm215 (e := (27, 3, .ifCond .eq 48, [42])) rfl) (decide_eq_true hc3)) ?_
        refine Q.run zm215 1 (i' := 43) (ls' := [some (.ref 121), some (.int x1), some (.int x2), some (.long x3), none, some (.int x5), some (.int x6), some (.int x7)]) (st' := [.int x6]) rfl ?_
        obtain ⟨hc4, h⟩ := ite_so h
        cases h
        exact Q.ret (A.ri zm215 (show zM215.2.2.2.2.2[43]? = some (77, 1, .ireturn, []) from rfl) rfl (fit1 hc4)) hl
      · rw [if_neg hc3] at h
        refine Q.map (A.zF (gI_of zm215 (e := (27, 3, .ifCond .eq 48, [42])) rfl) (fun q => hc3 (of_decide_eq_true q))) ?_
        refine Q.run zm215 1 (i' := 17) (ls' := [some (.ref 121), some (.int x1), some (.int x2), some (.long x3), none, some (.int x5), some (.int x6), some (.int x7)]) (st' := [.ref 121]) rfl ?_
        refine Q.map (A.gf (gI_of zm215 (e := (31, 3, .getfield 7, [9, 2])) rfl) (hl.lt (a := 121) (by decide)) (hl.T (a := 121) (p := (9, 45)) 43 rfl rfl) (by decide) (hl.R 23 rfl)) ?_
        refine Q.run zm215 3 (i' := 21) (ls' := [some (.ref 121), some (.int x1), some (.int x2), some (.long x3), none, some (.int x5), some (.int x6), some (.int x7)]) (st' := [.int (x1 + x7), .ref 122]) rfl ?_
        obtain ⟨hc5, h⟩ := ite_so h
        refine Q.map (A.ia (gI_of zm215 (e := (38, 1, .iaload, [])) rfl) (hl.lt (a := 122) (by decide)) (hl.T (a := 122) (p := (100, 256)) 44 rfl rfl) hc5) ?_
        obtain ⟨r8, hc7, h⟩ := bu_so h
        have hq6 : Q 2 sio tt cc d 178 0 [some (.int (sI s 122 (jN (x1 + x7))))] [] s (.inl (some (.int r8)), s) := dt178 (by omega) hl  hc7
        refine Q.callI (gC_st zm215 (show zM215.2.2.2.2.2[22]? = some (39, 3, .invokestatic 109, [0, 178, 1]) from rfl) zm178 (show aC 1 [.int (sI s 122 (jN (x1 + x7)))] 1 = some ([some (.int (sI s 122 (jN (x1 + x7))))], []) from rfl)) hq6 ?_
        refine Q.run zm215 12 (i' := 35) (ls' := [some (.ref 121), some (.int x1), some (.int x2), some (.long x3), none, some (.int x5), some (.int x6), some (.int x7)]) (st' := [.int (((x3 >>> ((8 * ((x5 - 1) - x7)).toInt64 &&& 63)) &&& 255).toInt32), .int r8]) rfl ?_
        by_cases hc9 : r8 = (((x3 >>> ((8 * ((x5 - 1) - x7)).toInt64 &&& 63)) &&& 255).toInt32)
        · rw [if_pos hc9] at h
          refine Q.map (A.bF (gI_of zm215 (e := (59, 3, .if_icmp .ne 7, [38])) rfl) (fun q => of_decide_eq_true q hc9)) ?_
          refine Q.run zm215 2 (i' := 39) (ls' := [some (.ref 121), some (.int x1), some (.int x2), some (.long x3), none, some (.int x5), some (.int x6), some (.int x7)]) (st' := [.int 1]) rfl ?_
          exact dt215_39 hd ih hl  h
        · rw [if_neg hc9] at h
          refine Q.map (A.bT (gI_of zm215 (e := (59, 3, .if_icmp .ne 7, [38])) rfl) (decide_eq_true hc9)) ?_
          refine Q.run zm215 1 (i' := 39) (ls' := [some (.ref 121), some (.int x1), some (.int x2), some (.long x3), none, some (.int x5), some (.int x6), some (.int x7)]) (st' := [.int 0]) rfl ?_
          exact dt215_39 hd ih hl  h
def dm215_8 (x1 : Int32) (x3 : Int64) (x5 : Int32) (y0 : Int32) (s : aS) : Option (Int32) :=
  dm215_11 5000 x1 x3 x5 y0 0 s
set_option maxRecDepth 100000 in
theorem dt215_8 {sio : Bool} {tt : Nat} {cc : Nat → Nat → Int32} {d : Nat} (hd : 1 ≤ d) {x1 : Int32} {x3 : Int64} {x5 : Int32} {y0 : Int32} {x2 : Int32} {s : aS} (hl : Ly tt cc s) {o : Int32} (h : dm215_8  x1 x3 x5 y0 s = some o) : Q 2 sio tt cc d 215 8 [some (.ref 121), some (.int x1), some (.int x2), some (.long x3), none, some (.int x5), none, none] [.int y0] s (.inl (some (.int o)), s) := by
  unfold dm215_8 at h
  obtain ⟨d, rfl⟩ : ∃ e, d = e + 1 := ⟨d - 1, by omega⟩
  refine Q.run zm215 3 (i' := 11) (ls' := [some (.ref 121), some (.int x1), some (.int x2), some (.long x3), none, some (.int x5), some (.int y0), some (.int 0)]) (st' := []) rfl ?_
  exact dt215_11 hd _ hl  h
def dm215 (x1 : Int32) (x2 : Int32) (x3 : Int64) (x5 : Int32) (s : aS) : Option (Int32) :=
  if (x2 - x1) = x5 then
    dm215_8 x1 x3 x5 1 s
  else
    dm215_8 x1 x3 x5 0 s
set_option maxRecDepth 100000 in
theorem dt215 {sio : Bool} {tt : Nat} {cc : Nat → Nat → Int32} {d : Nat} (hd : 1 ≤ d) {x1 : Int32} {x2 : Int32} {x3 : Int64} {x5 : Int32} {s : aS} (hl : Ly tt cc s) {o : Int32} (h : dm215  x1 x2 x3 x5 s = some o) : Q 2 sio tt cc d 215 0 [some (.ref 121), some (.int x1), some (.int x2), some (.long x3), none, some (.int x5), none, none] [] s (.inl (some (.int o)), s) := by
  unfold dm215 at h
  obtain ⟨d, rfl⟩ : ∃ e, d = e + 1 := ⟨d - 1, by omega⟩
  refine Q.run zm215 4 (i' := 4) (ls' := [some (.ref 121), some (.int x1), some (.int x2), some (.long x3), none, some (.int x5), none, none]) (st' := [.int x5, .int (x2 - x1)]) rfl ?_
  by_cases hc1 : (x2 - x1) = x5
  · rw [if_pos hc1] at h
    refine Q.map (A.bF (gI_of zm215 (e := (5, 3, .if_icmp .ne 7, [7])) rfl) (fun q => of_decide_eq_true q hc1)) ?_
    refine Q.run zm215 2 (i' := 8) (ls' := [some (.ref 121), some (.int x1), some (.int x2), some (.long x3), none, some (.int x5), none, none]) (st' := [.int 1]) rfl ?_
    exact dt215_8 hd hl  h
  · rw [if_neg hc1] at h
    refine Q.map (A.bT (gI_of zm215 (e := (5, 3, .if_icmp .ne 7, [7])) rfl) (decide_eq_true hc1)) ?_
    refine Q.run zm215 1 (i' := 8) (ls' := [some (.ref 121), some (.int x1), some (.int x2), some (.long x3), none, some (.int x5), none, none]) (st' := [.int 0]) rfl ?_
    exact dt215_8 hd hl  h
/-! 210 FormulaTreesModel.readWord()V -/
set_option maxRecDepth 100000 in
theorem zm210 : zP[210]? = some zM210 := rfl
def dm210_183 (x5 : Int32) (s : aS) : Option (aS) :=
  bu (dm194 x5 s) fun s3 =>
  some s3
set_option maxRecDepth 100000 in
theorem dt210_183 {sio : Bool} {tt : Nat} {cc : Nat → Nat → Int32} {d : Nat} (hd : 4 ≤ d) {x5 : Int32} {x1 : Int32} {x2 : Int32} {x3 : Int32} {x4 : Int32} {s : aS} (hl : Ly tt cc s) {o : aS} (h : dm210_183  x5 s = some o) : Q 2 sio tt cc d 210 183 [some (.ref 121), some (.int x1), some (.int x2), some (.int x3), some (.int x4), some (.int x5)] [] s (.inl none, o) := by
  unfold dm210_183 at h
  obtain ⟨d, rfl⟩ : ∃ e, d = e + 1 := ⟨d - 1, by omega⟩
  refine Q.run zm210 2 (i' := 185) (ls' := [some (.ref 121), some (.int x1), some (.int x2), some (.int x3), some (.int x4), some (.int x5)]) (st' := [.int x5, .ref 121]) rfl ?_
  obtain ⟨s3, hc2, h⟩ := bu_so h
  have hq1 : Q 2 sio tt cc d 194 0 [some (.ref 121), some (.int x5)] [] s (.inl none, s3) := dt194 (by omega) hl  hc2
  refine Q.callV (gC_vi zm210 (show zM210.2.2.2.2.2[185]? = some (333, 3, .invokevirtual 161, [0, 194, 1, 9]) from rfl) zm194 (hl.lt (a := 121) (by decide)) (hl.T (a := 121) (p := (9, 45)) 43 rfl rfl) rfl (show aCr 1 121 [.int x5, .ref 121] 2 = some ([some (.ref 121), some (.int x5)], []) from rfl)) hq1 ?_
  cases h
  exact Q.ret (A.rv zm210 (show zM210.2.2.2.2.2[186]? = some (336, 1, .return_, []) from rfl) rfl) hq1.1
def dm210_65 (s : aS) : Option (aS) :=
  some s
set_option maxRecDepth 100000 in
theorem dt210_65 {sio : Bool} {tt : Nat} {cc : Nat → Nat → Int32} {d : Nat} (hd : 4 ≤ d) {x1 : Int32} {x2 : Int32} {x3 : Int32} {s : aS} (hl : Ly tt cc s) {o : aS} (h : dm210_65  s = some o) : Q 2 sio tt cc d 210 65 [some (.ref 121), some (.int x1), some (.int x2), some (.int x3), none, none] [] s (.inl none, o) := by
  unfold dm210_65 at h
  obtain ⟨d, rfl⟩ : ∃ e, d = e + 1 := ⟨d - 1, by omega⟩
  refine Q.run zm210 1 (i' := 186) (ls' := [some (.ref 121), some (.int x1), some (.int x2), some (.int x3), none, none]) (st' := []) rfl ?_
  cases h
  exact Q.ret (A.rv zm210 (show zM210.2.2.2.2.2[186]? = some (336, 1, .return_, []) from rfl) rfl) hl
def dm210_53 (x2 : Int32) (s : aS) : Option (aS) :=
  bu (dm186 x2 s) fun s3 =>
  some s3
set_option maxRecDepth 100000 in
theorem dt210_53 {sio : Bool} {tt : Nat} {cc : Nat → Nat → Int32} {d : Nat} (hd : 4 ≤ d) {x2 : Int32} {x1 : Int32} {x3 : Int32} {s : aS} (hl : Ly tt cc s) {o : aS} (h : dm210_53  x2 s = some o) : Q 2 sio tt cc d 210 53 [some (.ref 121), some (.int x1), some (.int x2), some (.int x3), none, none] [] s (.inl none, o) := by
  unfold dm210_53 at h
  obtain ⟨d, rfl⟩ : ∃ e, d = e + 1 := ⟨d - 1, by omega⟩
  refine Q.run zm210 2 (i' := 55) (ls' := [some (.ref 121), some (.int x1), some (.int x2), some (.int x3), none, none]) (st' := [.int x2, .ref 121]) rfl ?_
  obtain ⟨s3, hc2, h⟩ := bu_so h
  have hq1 : Q 2 sio tt cc d 186 0 [some (.ref 121), some (.int x2)] [] s (.inl none, s3) := dt186 (by omega) hl  hc2
  refine Q.callV (gC_vi zm210 (show zM210.2.2.2.2.2[55]? = some (98, 3, .invokevirtual 164, [0, 186, 1, 9]) from rfl) zm186 (hl.lt (a := 121) (by decide)) (hl.T (a := 121) (p := (9, 45)) 43 rfl rfl) rfl (show aCr 1 121 [.int x2, .ref 121] 2 = some ([some (.ref 121), some (.int x2)], []) from rfl)) hq1 ?_
  cases h
  exact Q.ret (A.rv zm210 (show zM210.2.2.2.2.2[56]? = some (101, 1, .return_, []) from rfl) rfl) hq1.1
def dm210_173 (x1 : Int32) (x3 : Int32) (x4 : Int32) (x5 : Int32) (y1 : Int32) (y2 : Int32) (s : aS) : Option (aS) :=
  if aB y1 1152 then
    nx (wI s 136 (jN y1) y2) fun s2 =>
    if x3 = 0 then
      if x4 = 0 then
        bu (dm200 x5 x1 1 s2) fun s9 =>
        dm210_183 x5 s9
      else
        dm210_183 x5 s2
    else
      dm210_183 x5 s2
  else none
set_option maxRecDepth 100000 in
theorem dt210_173 {sio : Bool} {tt : Nat} {cc : Nat → Nat → Int32} {d : Nat} (hd : 4 ≤ d) {x1 : Int32} {x3 : Int32} {x4 : Int32} {x5 : Int32} {y1 : Int32} {y2 : Int32} {x2 : Int32} {s : aS} (hl : Ly tt cc s) {o : aS} (h : dm210_173  x1 x3 x4 x5 y1 y2 s = some o) : Q 2 sio tt cc d 210 173 [some (.ref 121), some (.int x1), some (.int x2), some (.int x3), some (.int x4), some (.int x5)] [.int y2, .int y1, .ref 136] s (.inl none, o) := by
  unfold dm210_173 at h
  obtain ⟨d, rfl⟩ : ∃ e, d = e + 1 := ⟨d - 1, by omega⟩
  obtain ⟨hc1, h⟩ := ite_so h
  obtain ⟨s2, hs3, h⟩ := nx_so h
  refine Q.is hs3 rfl (gI_of zm210 (e := (312, 1, .iastore, [])) rfl) (hl.lt (a := 136) (by decide)) (by decide) (hl.T (a := 136) (p := (100, 1152)) 58 rfl rfl) hc1 ?_
  have hl4 : Ly tt cc s2 := by rw [hs3]; exact hl.wId (by decide)
  refine Q.run zm210 1 (i' := 175) (ls' := [some (.ref 121), some (.int x1), some (.int x2), some (.int x3), some (.int x4), some (.int x5)]) (st' := [.int x3]) rfl ?_
  by_cases hc5 : x3 = 0
  · rw [if_pos hc5] at h
    refine Q.map (A.zF (gI_of zm210 (e := (314, 3, .ifCond .ne 16, [183])) rfl) (fun q => of_decide_eq_true q hc5)) ?_
    refine Q.run zm210 1 (i' := 177) (ls' := [some (.ref 121), some (.int x1), some (.int x2), some (.int x3), some (.int x4), some (.int x5)]) (st' := [.int x4]) rfl ?_
    by_cases hc6 : x4 = 0
    · rw [if_pos hc6] at h
      refine Q.map (A.zF (gI_of zm210 (e := (319, 3, .ifCond .ne 11, [183])) rfl) (fun q => of_decide_eq_true q hc6)) ?_
      refine Q.run zm210 4 (i' := 182) (ls' := [some (.ref 121), some (.int x1), some (.int x2), some (.int x3), some (.int x4), some (.int x5)]) (st' := [.int 1, .int x1, .int x5, .ref 121]) rfl ?_
      obtain ⟨s9, hc8, h⟩ := bu_so h
      have hq7 : Q 2 sio tt cc d 200 0 [some (.ref 121), some (.int x5), some (.int x1), some (.int 1), none] [] s2 (.inl none, s9) := dt200 (by omega) hl4  hc8
      refine Q.callV (gC_vi zm210 (show zM210.2.2.2.2.2[182]? = some (327, 3, .invokevirtual 170, [0, 200, 3, 9]) from rfl) zm200 (hl4.lt (a := 121) (by decide)) (hl4.T (a := 121) (p := (9, 45)) 43 rfl rfl) rfl (show aCr 3 121 [.int 1, .int x1, .int x5, .ref 121] 5 = some ([some (.ref 121), some (.int x5), some (.int x1), some (.int 1), none], []) from rfl)) hq7 ?_
      exact dt210_183 hd hq7.1  h
    · rw [if_neg hc6] at h
      refine Q.map (A.zT (gI_of zm210 (e := (319, 3, .ifCond .ne 11, [183])) rfl) (decide_eq_true hc6)) ?_
      exact dt210_183 hd hl4  h
  · rw [if_neg hc5] at h
    refine Q.map (A.zT (gI_of zm210 (e := (314, 3, .ifCond .ne 16, [183])) rfl) (decide_eq_true hc5)) ?_
    exact dt210_183 hd hl4  h
def dm210_161 (x1 : Int32) (x3 : Int32) (x4 : Int32) (y1 : Int32) (s : aS) : Option (aS) :=
  bv (dm187 y1 s) fun r4 s3 =>
  if x3 = 0 then
    dm210_173 x1 x3 x4 r4 (1024 + r4) 0 s3
  else
    dm210_173 x1 x3 x4 r4 (1024 + r4) 1 s3
set_option maxRecDepth 100000 in
theorem dt210_161 {sio : Bool} {tt : Nat} {cc : Nat → Nat → Int32} {d : Nat} (hd : 4 ≤ d) {x1 : Int32} {x3 : Int32} {x4 : Int32} {y1 : Int32} {x2 : Int32} {s : aS} (hl : Ly tt cc s) {o : aS} (h : dm210_161  x1 x3 x4 y1 s = some o) : Q 2 sio tt cc d 210 161 [some (.ref 121), some (.int x1), some (.int x2), some (.int x3), some (.int x4), none] [.int y1, .ref 121] s (.inl none, o) := by
  unfold dm210_161 at h
  obtain ⟨d, rfl⟩ : ∃ e, d = e + 1 := ⟨d - 1, by omega⟩
  obtain ⟨r4, s3, hc2, h⟩ := bv_so h
  have hq1 : Q 2 sio tt cc d 187 0 [some (.ref 121), some (.int y1), none, none] [] s (.inl (some (.int r4)), s3) := dt187 (by omega) hl  hc2
  refine Q.callI (gC_vi zm210 (show zM210.2.2.2.2.2[161]? = some (288, 3, .invokevirtual 167, [0, 187, 1, 9]) from rfl) zm187 (hl.lt (a := 121) (by decide)) (hl.T (a := 121) (p := (9, 45)) 43 rfl rfl) rfl (show aCr 1 121 [.int y1, .ref 121] 4 = some ([some (.ref 121), some (.int y1), none, none], []) from rfl)) hq1 ?_
  refine Q.run zm210 2 (i' := 164) (ls' := [some (.ref 121), some (.int x1), some (.int x2), some (.int x3), some (.int x4), some (.int r4)]) (st' := [.ref 121]) rfl ?_
  refine Q.map (A.gf (gI_of zm210 (e := (294, 3, .getfield 53, [9, 17])) rfl) (hq1.1.lt (a := 121) (by decide)) (hq1.1.T (a := 121) (p := (9, 45)) 43 rfl rfl) (by decide) (hq1.1.R 37 rfl)) ?_
  refine Q.run zm210 4 (i' := 169) (ls' := [some (.ref 121), some (.int x1), some (.int x2), some (.int x3), some (.int x4), some (.int r4)]) (st' := [.int x3, .int (1024 + r4), .ref 136]) rfl ?_
  by_cases hc5 : x3 = 0
  · rw [if_pos hc5] at h
    refine Q.map (A.zT (gI_of zm210 (e := (304, 3, .ifCond .eq 7, [172])) rfl) (decide_eq_true hc5)) ?_
    refine Q.run zm210 1 (i' := 173) (ls' := [some (.ref 121), some (.int x1), some (.int x2), some (.int x3), some (.int x4), some (.int r4)]) (st' := [.int 0, .int (1024 + r4), .ref 136]) rfl ?_
    exact dt210_173 hd hq1.1  h
  · rw [if_neg hc5] at h
    refine Q.map (A.zF (gI_of zm210 (e := (304, 3, .ifCond .eq 7, [172])) rfl) (fun q => hc5 (of_decide_eq_true q))) ?_
    refine Q.run zm210 2 (i' := 173) (ls' := [some (.ref 121), some (.int x1), some (.int x2), some (.int x3), some (.int x4), some (.int r4)]) (st' := [.int 1, .int (1024 + r4), .ref 136]) rfl ?_
    exact dt210_173 hd hq1.1  h
def dm210_158 (x1 : Int32) (x3 : Int32) (x4 : Int32) (s : aS) : Option (aS) :=
  dm210_161 x1 x3 x4 3 s
set_option maxRecDepth 100000 in
theorem dt210_158 {sio : Bool} {tt : Nat} {cc : Nat → Nat → Int32} {d : Nat} (hd : 4 ≤ d) {x1 : Int32} {x3 : Int32} {x4 : Int32} {x2 : Int32} {s : aS} (hl : Ly tt cc s) {o : aS} (h : dm210_158  x1 x3 x4 s = some o) : Q 2 sio tt cc d 210 158 [some (.ref 121), some (.int x1), some (.int x2), some (.int x3), some (.int x4), none] [.ref 121] s (.inl none, o) := by
  unfold dm210_158 at h
  obtain ⟨d, rfl⟩ : ∃ e, d = e + 1 := ⟨d - 1, by omega⟩
  refine Q.run zm210 2 (i' := 161) (ls' := [some (.ref 121), some (.int x1), some (.int x2), some (.int x3), some (.int x4), none]) (st' := [.int 3, .ref 121]) rfl ?_
  exact dt210_161 hd hl  h
def dm210_3 : Nat → Int32 → aS → Option (aS)
  | 0, _, _ => none
  | n + 1, x1, s =>
    bu (dm176 (sI s 121 26) s) fun r3 =>
    bu (dm211 r3) fun r6 =>
    if r6 = 0 then
      bu (dm176 (sI s 121 26) s) fun r10 =>
      if r10 = 36 then
        bu (dm212 x1 (sI s 121 26) s) fun r14 =>
        nx (wI s 121 41 0) fun s15 =>
        nx (wI s15 121 39 0) fun s18 =>
        bu (dm213 x1 r14 s18) fun r23 =>
        nx (wI s18 121 40 r23) fun s24 =>
        if r14 < ((sI s 121 26) - x1) then
          dm210_53 (sI s 121 26) s24
        else
          if 3 < r14 then
            dm210_53 (sI s 121 26) s24
          else
            if (sI s24 121 40) ≤ 16384 then
              bu (dm208 s24) fun s32 =>
              if (sI s32 121 27) = 0 then
                bu (dm209 (-1) s32) fun s36 =>
                dm210_65 s36
              else
                dm210_65 s32
            else
              dm210_53 (sI s 121 26) s24
      else
        bu (dm176 (sI s 121 26) s) fun r39 =>
        if r39 = 33 then
          bu (dm177 122 x1 ((sI s 121 26) - x1) s) fun r43 =>
          bu (dm206 r43 x1 s) fun s46 =>
          some s46
        else
          bu (dm176 (sI s 121 26) s) fun r49 =>
          if r49 = 40 then
            bv (dm187 7 s) fun r54 s53 =>
            bu (dm200 r54 x1 1 s53) fun s57 =>
            if (sI s57 121 33) = 32 then
              bu (dm186 (sI s 121 26) s57) fun s61 =>
              some s61
            else
              bu (dm188 7 r54 s57) fun s64 =>
              nx (wI s64 121 33 ((sI s64 121 33) + 1)) fun s65 =>
              nx (wI s65 121 26 ((sI s65 121 26) + 1)) fun s68 =>
              nx (wI s68 121 35 1) fun s71 =>
              nx (wI s71 121 36 1) fun s74 =>
              some s74
          else
            bv (dm214 x1 (sI s 121 26) s) fun r80 s79 =>
            if r80 = 0 then
              bu (dm215 x1 (sI s 121 26) 1414681925 4 s79) fun r84 =>
              bu (dm215 x1 (sI s 121 26) 301743231813 5 s79) fun r87 =>
              if r84 = 0 then
                if r87 = 0 then
                  dm210_161 x1 r84 r87 6 s79
                else
                  dm210_158 x1 r84 r87 s79
              else
                dm210_158 x1 r84 r87 s79
            else
              bu (dm209 (-1) s79) fun s92 =>
              some s92
    else
      nx (wI s 121 26 ((sI s 121 26) + 1)) fun s93 =>
      dm210_3 n x1 s93
set_option maxRecDepth 100000 in
theorem dt210_3 {sio : Bool} {tt : Nat} {cc : Nat → Nat → Int32} {d : Nat} (hd : 4 ≤ d) : ∀ (n : Nat) {x1 : Int32} {s : aS} (_ : Ly tt cc s) {o : aS} (_ : dm210_3  n x1 s = some o), Q 2 sio tt cc d 210 3 [some (.ref 121), some (.int x1), none, none, none, none] [] s (.inl none, o) := by
  obtain ⟨d, rfl⟩ : ∃ e, d = e + 1 := ⟨d - 1, by omega⟩
  intro n
  induction n with
  | zero => intro x1 s hl o h; rw [dm210_3] at h; cases h
  | succ n ih =>
    intro x1 s hl o h
    rw [dm210_3] at h
    refine Q.run zm210 2 (i' := 5) (ls' := [some (.ref 121), some (.int x1), none, none, none, none]) (st' := [.ref 121, .ref 121]) rfl ?_
    refine Q.map (A.gf (gI_of zm210 (e := (7, 3, .getfield 138, [9, 26])) rfl) (hl.lt (a := 121) (by decide)) (hl.T (a := 121) (p := (9, 45)) 43 rfl rfl) (by decide) rfl) ?_
    obtain ⟨r3, hc2, h⟩ := bu_so h
    have hq1 : Q 2 sio tt cc d 176 0 [some (.ref 121), some (.int (sI s 121 26))] [] s (.inl (some (.int r3)), s) := dt176 (by omega) hl  hc2
    refine Q.callI (gC_vi zm210 (show zM210.2.2.2.2.2[6]? = some (10, 3, .invokevirtual 113, [0, 176, 1, 9]) from rfl) zm176 (hl.lt (a := 121) (by decide)) (hl.T (a := 121) (p := (9, 45)) 43 rfl rfl) rfl (show aCr 1 121 [.int (sI s 121 26), .ref 121] 2 = some ([some (.ref 121), some (.int (sI s 121 26))], []) from rfl)) hq1 ?_
    obtain ⟨r6, hc5, h⟩ := bu_so h
    have hq4 : Q 2 sio tt cc d 211 0 [some (.int r3)] [] s (.inl (some (.int r6)), s) := dt211 (by omega) hl  hc5
    refine Q.callI (gC_st zm210 (show zM210.2.2.2.2.2[7]? = some (13, 3, .invokestatic 228, [0, 211, 1]) from rfl) zm211 (show aC 1 [.int r3] 1 = some ([some (.int r3)], []) from rfl)) hq4 ?_
    by_cases hc7 : r6 = 0
    · rw [if_pos hc7] at h
      refine Q.map (A.zT (gI_of zm210 (e := (16, 3, .ifCond .eq 16, [16])) rfl) (decide_eq_true hc7)) ?_
      refine Q.run zm210 1 (i' := 17) (ls' := [some (.ref 121), some (.int x1), none, none, none, none]) (st' := [.ref 121]) rfl ?_
      refine Q.map (A.gf (gI_of zm210 (e := (33, 3, .getfield 138, [9, 26])) rfl) (hl.lt (a := 121) (by decide)) (hl.T (a := 121) (p := (9, 45)) 43 rfl rfl) (by decide) rfl) ?_
      refine Q.run zm210 3 (i' := 21) (ls' := [some (.ref 121), some (.int x1), some (.int (sI s 121 26)), none, none, none]) (st' := [.int (sI s 121 26), .ref 121]) rfl ?_
      obtain ⟨r10, hc9, h⟩ := bu_so h
      have hq8 : Q 2 sio tt cc d 176 0 [some (.ref 121), some (.int (sI s 121 26))] [] s (.inl (some (.int r10)), s) := dt176 (by omega) hl  hc9
      refine Q.callI (gC_vi zm210 (show zM210.2.2.2.2.2[21]? = some (39, 3, .invokevirtual 113, [0, 176, 1, 9]) from rfl) zm176 (hl.lt (a := 121) (by decide)) (hl.T (a := 121) (p := (9, 45)) 43 rfl rfl) rfl (show aCr 1 121 [.int (sI s 121 26), .ref 121] 2 = some ([some (.ref 121), some (.int (sI s 121 26))], []) from rfl)) hq8 ?_
      refine Q.run zm210 1 (i' := 23) (ls' := [some (.ref 121), some (.int x1), some (.int (sI s 121 26)), none, none, none]) (st' := [.int 36, .int r10]) rfl ?_
      by_cases hc11 : r10 = 36
      · rw [if_pos hc11] at h
        refine Q.map (A.bF (gI_of zm210 (e := (44, 3, .if_icmp .ne 77, [66])) rfl) (fun q => of_decide_eq_true q hc11)) ?_
        refine Q.run zm210 3 (i' := 27) (ls' := [some (.ref 121), some (.int x1), some (.int (sI s 121 26)), none, none, none]) (st' := [.int (sI s 121 26), .int x1, .ref 121]) rfl ?_
        obtain ⟨r14, hc13, h⟩ := bu_so h
        have hq12 : Q 2 sio tt cc d 212 0 [some (.ref 121), some (.int x1), some (.int (sI s 121 26)), none] [] s (.inl (some (.int r14)), s) := dt212 (by omega) hl  hc13
        refine Q.callI (gC_vi zm210 (show zM210.2.2.2.2.2[27]? = some (50, 3, .invokevirtual 222, [0, 212, 2, 9]) from rfl) zm212 (hl.lt (a := 121) (by decide)) (hl.T (a := 121) (p := (9, 45)) 43 rfl rfl) rfl (show aCr 2 121 [.int (sI s 121 26), .int x1, .ref 121] 4 = some ([some (.ref 121), some (.int x1), some (.int (sI s 121 26)), none], []) from rfl)) hq12 ?_
        refine Q.run zm210 3 (i' := 31) (ls' := [some (.ref 121), some (.int x1), some (.int (sI s 121 26)), some (.int r14), none, none]) (st' := [.int 0, .ref 121]) rfl ?_
        obtain ⟨s15, hs16, h⟩ := nx_so h
        refine Q.pf hs16 rfl (gI_of zm210 (e := (56, 3, .putfield 200, [9, 41, 0])) rfl) (hl.lt (a := 121) (by decide)) (by decide) (hl.T (a := 121) (p := (9, 45)) 43 rfl rfl) (by decide) rfl rfl ?_
        have hl17 : Ly tt cc s15 := by rw [hs16]; exact hl.wId (by decide)
        refine Q.run zm210 2 (i' := 34) (ls' := [some (.ref 121), some (.int x1), some (.int (sI s 121 26)), some (.int r14), none, none]) (st' := [.int 0, .ref 121]) rfl ?_
        obtain ⟨s18, hs19, h⟩ := nx_so h
        refine Q.pf hs19 rfl (gI_of zm210 (e := (61, 3, .putfield 206, [9, 39, 0])) rfl) (hl17.lt (a := 121) (by decide)) (by decide) (hl17.T (a := 121) (p := (9, 45)) 43 rfl rfl) (by decide) rfl rfl ?_
        have hl20 : Ly tt cc s18 := by rw [hs19]; exact hl17.wId (by decide)
        refine Q.run zm210 4 (i' := 39) (ls' := [some (.ref 121), some (.int x1), some (.int (sI s 121 26)), some (.int r14), none, none]) (st' := [.int r14, .int x1, .ref 121, .ref 121]) rfl ?_
        obtain ⟨r23, hc22, h⟩ := bu_so h
        have hq21 : Q 2 sio tt cc d 213 0 [some (.ref 121), some (.int x1), some (.int r14), none, none] [] s18 (.inl (some (.int r23)), s18) := dt213 (by omega) hl20  hc22
        refine Q.callI (gC_vi zm210 (show zM210.2.2.2.2.2[39]? = some (68, 3, .invokevirtual 225, [0, 213, 2, 9]) from rfl) zm213 (hl20.lt (a := 121) (by decide)) (hl20.T (a := 121) (p := (9, 45)) 43 rfl rfl) rfl (show aCr 2 121 [.int r14, .int x1, .ref 121, .ref 121] 5 = some ([some (.ref 121), some (.int x1), some (.int r14), none, none], [.ref 121]) from rfl)) hq21 ?_
        obtain ⟨s24, hs25, h⟩ := nx_so h
        refine Q.pf hs25 rfl (gI_of zm210 (e := (71, 3, .putfield 203, [9, 40, 0])) rfl) (hl20.lt (a := 121) (by decide)) (by decide) (hl20.T (a := 121) (p := (9, 45)) 43 rfl rfl) (by decide) rfl rfl ?_
        have hl26 : Ly tt cc s24 := by rw [hs25]; exact hl20.wId (by decide)
        refine Q.run zm210 4 (i' := 45) (ls' := [some (.ref 121), some (.int x1), some (.int (sI s 121 26)), some (.int r14), none, none]) (st' := [.int ((sI s 121 26) - x1), .int r14]) rfl ?_
        by_cases hc27 : r14 < ((sI s 121 26) - x1)
        · rw [if_pos hc27] at h
          refine Q.map (A.bT (gI_of zm210 (e := (78, 3, .if_icmp .lt 18, [53])) rfl) (decide_eq_true hc27)) ?_
          exact dt210_53 hd hl26  h
        · rw [if_neg hc27] at h
          refine Q.map (A.bF (gI_of zm210 (e := (78, 3, .if_icmp .lt 18, [53])) rfl) (fun q => hc27 (of_decide_eq_true q))) ?_
          refine Q.run zm210 2 (i' := 48) (ls' := [some (.ref 121), some (.int x1), some (.int (sI s 121 26)), some (.int r14), none, none]) (st' := [.int 3, .int r14]) rfl ?_
          by_cases hc28 : 3 < r14
          · rw [if_pos hc28] at h
            refine Q.map (A.bT (gI_of zm210 (e := (83, 3, .if_icmp .gt 13, [53])) rfl) (decide_eq_true hc28)) ?_
            exact dt210_53 hd hl26  h
          · rw [if_neg hc28] at h
            refine Q.map (A.bF (gI_of zm210 (e := (83, 3, .if_icmp .gt 13, [53])) rfl) (fun q => hc28 (of_decide_eq_true q))) ?_
            refine Q.run zm210 1 (i' := 50) (ls' := [some (.ref 121), some (.int x1), some (.int (sI s 121 26)), some (.int r14), none, none]) (st' := [.ref 121]) rfl ?_
            refine Q.map (A.gf (gI_of zm210 (e := (87, 3, .getfield 203, [9, 40])) rfl) (hl26.lt (a := 121) (by decide)) (hl26.T (a := 121) (p := (9, 45)) 43 rfl rfl) (by decide) rfl) ?_
            refine Q.run zm210 1 (i' := 52) (ls' := [some (.ref 121), some (.int x1), some (.int (sI s 121 26)), some (.int r14), none, none]) (st' := [.int 16384, .int (sI s24 121 40)]) rfl ?_
            by_cases hc29 : (sI s24 121 40) ≤ 16384
            · rw [if_pos hc29] at h
              refine Q.map (A.bT (gI_of zm210 (e := (93, 3, .if_icmp .le 9, [57])) rfl) (decide_eq_true hc29)) ?_
              refine Q.run zm210 1 (i' := 58) (ls' := [some (.ref 121), some (.int x1), some (.int (sI s 121 26)), some (.int r14), none, none]) (st' := [.ref 121]) rfl ?_
              obtain ⟨s32, hc31, h⟩ := bu_so h
              have hq30 : Q 2 sio tt cc d 208 0 [some (.ref 121)] [] s24 (.inl none, s32) := dt208 (by omega) hl26  hc31
              refine Q.callV (gC_vi zm210 (show zM210.2.2.2.2.2[58]? = some (103, 3, .invokevirtual 209, [0, 208, 0, 9]) from rfl) zm208 (hl26.lt (a := 121) (by decide)) (hl26.T (a := 121) (p := (9, 45)) 43 rfl rfl) rfl (show aCr 0 121 [.ref 121] 1 = some ([some (.ref 121)], []) from rfl)) hq30 ?_
              refine Q.run zm210 1 (i' := 60) (ls' := [some (.ref 121), some (.int x1), some (.int (sI s 121 26)), some (.int r14), none, none]) (st' := [.ref 121]) rfl ?_
              refine Q.map (A.gf (gI_of zm210 (e := (107, 3, .getfield 134, [9, 27])) rfl) (hq30.1.lt (a := 121) (by decide)) (hq30.1.T (a := 121) (p := (9, 45)) 43 rfl rfl) (by decide) rfl) ?_
              by_cases hc33 : (sI s32 121 27) = 0
              · rw [if_pos hc33] at h
                refine Q.map (A.zF (gI_of zm210 (e := (110, 3, .ifCond .ne 8, [65])) rfl) (fun q => of_decide_eq_true q hc33)) ?_
                refine Q.run zm210 2 (i' := 64) (ls' := [some (.ref 121), some (.int x1), some (.int (sI s 121 26)), some (.int r14), none, none]) (st' := [.int (-1), .ref 121]) rfl ?_
                obtain ⟨s36, hc35, h⟩ := bu_so h
                have hq34 : Q 2 sio tt cc d 209 0 [some (.ref 121), some (.int (-1)), none, none] [] s32 (.inl none, s36) := dt209 (by omega) hq30.1  hc35
                refine Q.callV (gC_vi zm210 (show zM210.2.2.2.2.2[64]? = some (115, 3, .invokevirtual 231, [0, 209, 1, 9]) from rfl) zm209 (hq30.1.lt (a := 121) (by decide)) (hq30.1.T (a := 121) (p := (9, 45)) 43 rfl rfl) rfl (show aCr 1 121 [.int (-1), .ref 121] 4 = some ([some (.ref 121), some (.int (-1)), none, none], []) from rfl)) hq34 ?_
                exact dt210_65 hd hq34.1  h
              · rw [if_neg hc33] at h
                refine Q.map (A.zT (gI_of zm210 (e := (110, 3, .ifCond .ne 8, [65])) rfl) (decide_eq_true hc33)) ?_
                exact dt210_65 hd hq30.1  h
            · rw [if_neg hc29] at h
              refine Q.map (A.bF (gI_of zm210 (e := (93, 3, .if_icmp .le 9, [57])) rfl) (fun q => hc29 (of_decide_eq_true q))) ?_
              exact dt210_53 hd hl26  h
      · rw [if_neg hc11] at h
        refine Q.map (A.bT (gI_of zm210 (e := (44, 3, .if_icmp .ne 77, [66])) rfl) (decide_eq_true hc11)) ?_
        refine Q.run zm210 2 (i' := 68) (ls' := [some (.ref 121), some (.int x1), some (.int (sI s 121 26)), none, none, none]) (st' := [.int (sI s 121 26), .ref 121]) rfl ?_
        obtain ⟨r39, hc38, h⟩ := bu_so h
        have hq37 : Q 2 sio tt cc d 176 0 [some (.ref 121), some (.int (sI s 121 26))] [] s (.inl (some (.int r39)), s) := dt176 (by omega) hl  hc38
        refine Q.callI (gC_vi zm210 (show zM210.2.2.2.2.2[68]? = some (123, 3, .invokevirtual 113, [0, 176, 1, 9]) from rfl) zm176 (hl.lt (a := 121) (by decide)) (hl.T (a := 121) (p := (9, 45)) 43 rfl rfl) rfl (show aCr 1 121 [.int (sI s 121 26), .ref 121] 2 = some ([some (.ref 121), some (.int (sI s 121 26))], []) from rfl)) hq37 ?_
        refine Q.run zm210 1 (i' := 70) (ls' := [some (.ref 121), some (.int x1), some (.int (sI s 121 26)), none, none, none]) (st' := [.int 33, .int r39]) rfl ?_
        by_cases hc40 : r39 = 33
        · rw [if_pos hc40] at h
          refine Q.map (A.bF (gI_of zm210 (e := (128, 3, .if_icmp .ne 25, [85])) rfl) (fun q => of_decide_eq_true q hc40)) ?_
          refine Q.run zm210 2 (i' := 73) (ls' := [some (.ref 121), some (.int x1), some (.int (sI s 121 26)), none, none, none]) (st' := [.ref 121, .ref 121]) rfl ?_
          refine Q.map (A.gf (gI_of zm210 (e := (133, 3, .getfield 7, [9, 2])) rfl) (hl.lt (a := 121) (by decide)) (hl.T (a := 121) (p := (9, 45)) 43 rfl rfl) (by decide) (hl.R 23 rfl)) ?_
          refine Q.run zm210 4 (i' := 78) (ls' := [some (.ref 121), some (.int x1), some (.int (sI s 121 26)), none, none, none]) (st' := [.int ((sI s 121 26) - x1), .int x1, .ref 122, .ref 121]) rfl ?_
          obtain ⟨r43, hc42, h⟩ := bu_so h
          have hq41 : Q 2 sio tt cc d 177 0 [some (.ref 121), some (.ref 122), some (.int x1), some (.int ((sI s 121 26) - x1)), none, none, none] [] s (.inl (some (.int r43)), s) := dt177 (by omega) hl (hl.Kd (a := 122) (c := 100) (n := 256) 44 rfl rfl (by decide)) hc42
          refine Q.callI (gC_vi zm210 (show zM210.2.2.2.2.2[78]? = some (140, 3, .invokevirtual 120, [0, 177, 3, 9]) from rfl) zm177 (hl.lt (a := 121) (by decide)) (hl.T (a := 121) (p := (9, 45)) 43 rfl rfl) rfl (show aCr 3 121 [.int ((sI s 121 26) - x1), .int x1, .ref 122, .ref 121] 7 = some ([some (.ref 121), some (.ref 122), some (.int x1), some (.int ((sI s 121 26) - x1)), none, none, none], []) from rfl)) hq41 ?_
          refine Q.run zm210 4 (i' := 83) (ls' := [some (.ref 121), some (.int x1), some (.int (sI s 121 26)), some (.int r43), none, none]) (st' := [.int x1, .int r43, .ref 121]) rfl ?_
          obtain ⟨s46, hc45, h⟩ := bu_so h
          have hq44 : Q 2 sio tt cc d 206 0 [some (.ref 121), some (.int r43), some (.int x1)] [] s (.inl none, s46) := dt206 (by omega) hl  hc45
          refine Q.callV (gC_vi zm210 (show zM210.2.2.2.2.2[83]? = some (147, 3, .invokevirtual 234, [0, 206, 2, 9]) from rfl) zm206 (hl.lt (a := 121) (by decide)) (hl.T (a := 121) (p := (9, 45)) 43 rfl rfl) rfl (show aCr 2 121 [.int x1, .int r43, .ref 121] 3 = some ([some (.ref 121), some (.int r43), some (.int x1)], []) from rfl)) hq44 ?_
          refine Q.run zm210 1 (i' := 186) (ls' := [some (.ref 121), some (.int x1), some (.int (sI s 121 26)), some (.int r43), none, none]) (st' := []) rfl ?_
          cases h
          exact Q.ret (A.rv zm210 (show zM210.2.2.2.2.2[186]? = some (336, 1, .return_, []) from rfl) rfl) hq44.1
        · rw [if_neg hc40] at h
          refine Q.map (A.bT (gI_of zm210 (e := (128, 3, .if_icmp .ne 25, [85])) rfl) (decide_eq_true hc40)) ?_
          refine Q.run zm210 2 (i' := 87) (ls' := [some (.ref 121), some (.int x1), some (.int (sI s 121 26)), none, none, none]) (st' := [.int (sI s 121 26), .ref 121]) rfl ?_
          obtain ⟨r49, hc48, h⟩ := bu_so h
          have hq47 : Q 2 sio tt cc d 176 0 [some (.ref 121), some (.int (sI s 121 26))] [] s (.inl (some (.int r49)), s) := dt176 (by omega) hl  hc48
          refine Q.callI (gC_vi zm210 (show zM210.2.2.2.2.2[87]? = some (155, 3, .invokevirtual 113, [0, 176, 1, 9]) from rfl) zm176 (hl.lt (a := 121) (by decide)) (hl.T (a := 121) (p := (9, 45)) 43 rfl rfl) rfl (show aCr 1 121 [.int (sI s 121 26), .ref 121] 2 = some ([some (.ref 121), some (.int (sI s 121 26))], []) from rfl)) hq47 ?_
          refine Q.run zm210 1 (i' := 89) (ls' := [some (.ref 121), some (.int x1), some (.int (sI s 121 26)), none, none, none]) (st' := [.int 40, .int r49]) rfl ?_
          by_cases hc50 : r49 = 40
          · rw [if_pos hc50] at h
            refine Q.map (A.bF (gI_of zm210 (e := (160, 3, .if_icmp .ne 72, [130])) rfl) (fun q => of_decide_eq_true q hc50)) ?_
            refine Q.run zm210 2 (i' := 92) (ls' := [some (.ref 121), some (.int x1), some (.int (sI s 121 26)), none, none, none]) (st' := [.int 7, .ref 121]) rfl ?_
            obtain ⟨r54, s53, hc52, h⟩ := bv_so h
            have hq51 : Q 2 sio tt cc d 187 0 [some (.ref 121), some (.int 7), none, none] [] s (.inl (some (.int r54)), s53) := dt187 (by omega) hl  hc52
            refine Q.callI (gC_vi zm210 (show zM210.2.2.2.2.2[92]? = some (166, 3, .invokevirtual 167, [0, 187, 1, 9]) from rfl) zm187 (hl.lt (a := 121) (by decide)) (hl.T (a := 121) (p := (9, 45)) 43 rfl rfl) rfl (show aCr 1 121 [.int 7, .ref 121] 4 = some ([some (.ref 121), some (.int 7), none, none], []) from rfl)) hq51 ?_
            refine Q.run zm210 5 (i' := 98) (ls' := [some (.ref 121), some (.int x1), some (.int (sI s 121 26)), some (.int r54), none, none]) (st' := [.int 1, .int x1, .int r54, .ref 121]) rfl ?_
            obtain ⟨s57, hc56, h⟩ := bu_so h
            have hq55 : Q 2 sio tt cc d 200 0 [some (.ref 121), some (.int r54), some (.int x1), some (.int 1), none] [] s53 (.inl none, s57) := dt200 (by omega) hq51.1  hc56
            refine Q.callV (gC_vi zm210 (show zM210.2.2.2.2.2[98]? = some (174, 3, .invokevirtual 170, [0, 200, 3, 9]) from rfl) zm200 (hq51.1.lt (a := 121) (by decide)) (hq51.1.T (a := 121) (p := (9, 45)) 43 rfl rfl) rfl (show aCr 3 121 [.int 1, .int x1, .int r54, .ref 121] 5 = some ([some (.ref 121), some (.int r54), some (.int x1), some (.int 1), none], []) from rfl)) hq55 ?_
            refine Q.run zm210 1 (i' := 100) (ls' := [some (.ref 121), some (.int x1), some (.int (sI s 121 26)), some (.int r54), none, none]) (st' := [.ref 121]) rfl ?_
            refine Q.map (A.gf (gI_of zm210 (e := (178, 3, .getfield 237, [9, 33])) rfl) (hq55.1.lt (a := 121) (by decide)) (hq55.1.T (a := 121) (p := (9, 45)) 43 rfl rfl) (by decide) rfl) ?_
            refine Q.run zm210 1 (i' := 102) (ls' := [some (.ref 121), some (.int x1), some (.int (sI s 121 26)), some (.int r54), none, none]) (st' := [.int 32, .int (sI s57 121 33)]) rfl ?_
            by_cases hc58 : (sI s57 121 33) = 32
            · rw [if_pos hc58] at h
              refine Q.map (A.bF (gI_of zm210 (e := (183, 3, .if_icmp .ne 9, [107])) rfl) (fun q => of_decide_eq_true q hc58)) ?_
              refine Q.run zm210 2 (i' := 105) (ls' := [some (.ref 121), some (.int x1), some (.int (sI s 121 26)), some (.int r54), none, none]) (st' := [.int (sI s 121 26), .ref 121]) rfl ?_
              obtain ⟨s61, hc60, h⟩ := bu_so h
              have hq59 : Q 2 sio tt cc d 186 0 [some (.ref 121), some (.int (sI s 121 26))] [] s57 (.inl none, s61) := dt186 (by omega) hq55.1  hc60
              refine Q.callV (gC_vi zm210 (show zM210.2.2.2.2.2[105]? = some (188, 3, .invokevirtual 164, [0, 186, 1, 9]) from rfl) zm186 (hq55.1.lt (a := 121) (by decide)) (hq55.1.T (a := 121) (p := (9, 45)) 43 rfl rfl) rfl (show aCr 1 121 [.int (sI s 121 26), .ref 121] 2 = some ([some (.ref 121), some (.int (sI s 121 26))], []) from rfl)) hq59 ?_
              cases h
              exact Q.ret (A.rv zm210 (show zM210.2.2.2.2.2[106]? = some (191, 1, .return_, []) from rfl) rfl) hq59.1
            · rw [if_neg hc58] at h
              refine Q.map (A.bT (gI_of zm210 (e := (183, 3, .if_icmp .ne 9, [107])) rfl) (decide_eq_true hc58)) ?_
              refine Q.run zm210 3 (i' := 110) (ls' := [some (.ref 121), some (.int x1), some (.int (sI s 121 26)), some (.int r54), none, none]) (st' := [.int r54, .int 7, .ref 121]) rfl ?_
              obtain ⟨s64, hc63, h⟩ := bu_so h
              have hq62 : Q 2 sio tt cc d 188 0 [some (.ref 121), some (.int 7), some (.int r54)] [] s57 (.inl none, s64) := dt188 (by omega) hq55.1  hc63
              refine Q.callV (gC_vi zm210 (show zM210.2.2.2.2.2[110]? = some (196, 3, .invokevirtual 240, [0, 188, 2, 9]) from rfl) zm188 (hq55.1.lt (a := 121) (by decide)) (hq55.1.T (a := 121) (p := (9, 45)) 43 rfl rfl) rfl (show aCr 2 121 [.int r54, .int 7, .ref 121] 3 = some ([some (.ref 121), some (.int 7), some (.int r54)], []) from rfl)) hq62 ?_
              refine Q.run zm210 2 (i' := 113) (ls' := [some (.ref 121), some (.int x1), some (.int (sI s 121 26)), some (.int r54), none, none]) (st' := [.ref 121, .ref 121]) rfl ?_
              refine Q.map (A.gf (gI_of zm210 (e := (201, 3, .getfield 237, [9, 33])) rfl) (hq62.1.lt (a := 121) (by decide)) (hq62.1.T (a := 121) (p := (9, 45)) 43 rfl rfl) (by decide) rfl) ?_
              refine Q.run zm210 2 (i' := 116) (ls' := [some (.ref 121), some (.int x1), some (.int (sI s 121 26)), some (.int r54), none, none]) (st' := [.int ((sI s64 121 33) + 1), .ref 121]) rfl ?_
              obtain ⟨s65, hs66, h⟩ := nx_so h
              refine Q.pf hs66 rfl (gI_of zm210 (e := (206, 3, .putfield 237, [9, 33, 0])) rfl) (hq62.1.lt (a := 121) (by decide)) (by decide) (hq62.1.T (a := 121) (p := (9, 45)) 43 rfl rfl) (by decide) rfl rfl ?_
              have hl67 : Ly tt cc s65 := by rw [hs66]; exact hq62.1.wId (by decide)
              refine Q.run zm210 2 (i' := 119) (ls' := [some (.ref 121), some (.int x1), some (.int (sI s 121 26)), some (.int r54), none, none]) (st' := [.ref 121, .ref 121]) rfl ?_
              refine Q.map (A.gf (gI_of zm210 (e := (211, 3, .getfield 138, [9, 26])) rfl) (hl67.lt (a := 121) (by decide)) (hl67.T (a := 121) (p := (9, 45)) 43 rfl rfl) (by decide) rfl) ?_
              refine Q.run zm210 2 (i' := 122) (ls' := [some (.ref 121), some (.int x1), some (.int (sI s 121 26)), some (.int r54), none, none]) (st' := [.int ((sI s65 121 26) + 1), .ref 121]) rfl ?_
              obtain ⟨s68, hs69, h⟩ := nx_so h
              refine Q.pf hs69 rfl (gI_of zm210 (e := (216, 3, .putfield 138, [9, 26, 0])) rfl) (hl67.lt (a := 121) (by decide)) (by decide) (hl67.T (a := 121) (p := (9, 45)) 43 rfl rfl) (by decide) rfl rfl ?_
              have hl70 : Ly tt cc s68 := by rw [hs69]; exact hl67.wId (by decide)
              refine Q.run zm210 2 (i' := 125) (ls' := [some (.ref 121), some (.int x1), some (.int (sI s 121 26)), some (.int r54), none, none]) (st' := [.int 1, .ref 121]) rfl ?_
              obtain ⟨s71, hs72, h⟩ := nx_so h
              refine Q.pf hs72 rfl (gI_of zm210 (e := (221, 3, .putfield 243, [9, 35, 0])) rfl) (hl70.lt (a := 121) (by decide)) (by decide) (hl70.T (a := 121) (p := (9, 45)) 43 rfl rfl) (by decide) rfl rfl ?_
              have hl73 : Ly tt cc s71 := by rw [hs72]; exact hl70.wId (by decide)
              refine Q.run zm210 2 (i' := 128) (ls' := [some (.ref 121), some (.int x1), some (.int (sI s 121 26)), some (.int r54), none, none]) (st' := [.int 1, .ref 121]) rfl ?_
              obtain ⟨s74, hs75, h⟩ := nx_so h
              refine Q.pf hs75 rfl (gI_of zm210 (e := (226, 3, .putfield 246, [9, 36, 1])) rfl) (hl73.lt (a := 121) (by decide)) (by decide) (hl73.T (a := 121) (p := (9, 45)) 43 rfl rfl) (by decide) rfl rfl ?_
              have hl76 : Ly tt cc s74 := by rw [hs75]; exact hl73.wId (by decide)
              refine Q.run zm210 1 (i' := 186) (ls' := [some (.ref 121), some (.int x1), some (.int (sI s 121 26)), some (.int r54), none, none]) (st' := []) rfl ?_
              cases h
              exact Q.ret (A.rv zm210 (show zM210.2.2.2.2.2[186]? = some (336, 1, .return_, []) from rfl) rfl) hl76
          · rw [if_neg hc50] at h
            refine Q.map (A.bT (gI_of zm210 (e := (160, 3, .if_icmp .ne 72, [130])) rfl) (decide_eq_true hc50)) ?_
            refine Q.run zm210 3 (i' := 133) (ls' := [some (.ref 121), some (.int x1), some (.int (sI s 121 26)), none, none, none]) (st' := [.int (sI s 121 26), .int x1, .ref 121]) rfl ?_
            obtain ⟨r80, s79, hc78, h⟩ := bv_so h
            have hq77 : Q 2 sio tt cc d 214 0 [some (.ref 121), some (.int x1), some (.int (sI s 121 26)), none, none, none] [] s (.inl (some (.int r80)), s79) := dt214 (by omega) hl  hc78
            refine Q.callI (gC_vi zm210 (show zM210.2.2.2.2.2[133]? = some (235, 3, .invokevirtual 249, [0, 214, 2, 9]) from rfl) zm214 (hl.lt (a := 121) (by decide)) (hl.T (a := 121) (p := (9, 45)) 43 rfl rfl) rfl (show aCr 2 121 [.int (sI s 121 26), .int x1, .ref 121] 6 = some ([some (.ref 121), some (.int x1), some (.int (sI s 121 26)), none, none, none], []) from rfl)) hq77 ?_
            by_cases hc81 : r80 = 0
            · rw [if_pos hc81] at h
              refine Q.map (A.zT (gI_of zm210 (e := (238, 3, .ifCond .eq 11, [139])) rfl) (decide_eq_true hc81)) ?_
              refine Q.run zm210 5 (i' := 144) (ls' := [some (.ref 121), some (.int x1), some (.int (sI s 121 26)), none, none, none]) (st' := [.int 4, .long 1414681925, .int (sI s 121 26), .int x1, .ref 121]) rfl ?_
              obtain ⟨r84, hc83, h⟩ := bu_so h
              have hq82 : Q 2 sio tt cc d 215 0 [some (.ref 121), some (.int x1), some (.int (sI s 121 26)), some (.long 1414681925), none, some (.int 4), none, none] [] s79 (.inl (some (.int r84)), s79) := dt215 (by omega) hq77.1  hc83
              refine Q.callI (gC_vi zm210 (show zM210.2.2.2.2.2[144]? = some (256, 3, .invokevirtual 255, [0, 215, 4, 9]) from rfl) zm215 (hq77.1.lt (a := 121) (by decide)) (hq77.1.T (a := 121) (p := (9, 45)) 43 rfl rfl) rfl (show aCr 4 121 [.int 4, .long 1414681925, .int (sI s 121 26), .int x1, .ref 121] 8 = some ([some (.ref 121), some (.int x1), some (.int (sI s 121 26)), some (.long 1414681925), none, some (.int 4), none, none], []) from rfl)) hq82 ?_
              refine Q.run zm210 6 (i' := 151) (ls' := [some (.ref 121), some (.int x1), some (.int (sI s 121 26)), some (.int r84), none, none]) (st' := [.int 5, .long 301743231813, .int (sI s 121 26), .int x1, .ref 121]) rfl ?_
              obtain ⟨r87, hc86, h⟩ := bu_so h
              have hq85 : Q 2 sio tt cc d 215 0 [some (.ref 121), some (.int x1), some (.int (sI s 121 26)), some (.long 301743231813), none, some (.int 5), none, none] [] s79 (.inl (some (.int r87)), s79) := dt215 (by omega) hq77.1  hc86
              refine Q.callI (gC_vi zm210 (show zM210.2.2.2.2.2[151]? = some (267, 3, .invokevirtual 255, [0, 215, 4, 9]) from rfl) zm215 (hq77.1.lt (a := 121) (by decide)) (hq77.1.T (a := 121) (p := (9, 45)) 43 rfl rfl) rfl (show aCr 4 121 [.int 5, .long 301743231813, .int (sI s 121 26), .int x1, .ref 121] 8 = some ([some (.ref 121), some (.int x1), some (.int (sI s 121 26)), some (.long 301743231813), none, some (.int 5), none, none], []) from rfl)) hq85 ?_
              refine Q.run zm210 3 (i' := 155) (ls' := [some (.ref 121), some (.int x1), some (.int (sI s 121 26)), some (.int r84), some (.int r87), none]) (st' := [.int r84, .ref 121]) rfl ?_
              by_cases hc88 : r84 = 0
              · rw [if_pos hc88] at h
                refine Q.map (A.zF (gI_of zm210 (e := (274, 3, .ifCond .ne 8, [158])) rfl) (fun q => of_decide_eq_true q hc88)) ?_
                refine Q.run zm210 1 (i' := 157) (ls' := [some (.ref 121), some (.int x1), some (.int (sI s 121 26)), some (.int r84), some (.int r87), none]) (st' := [.int r87, .ref 121]) rfl ?_
                by_cases hc89 : r87 = 0
                · rw [if_pos hc89] at h
                  refine Q.map (A.zT (gI_of zm210 (e := (279, 3, .ifCond .eq 7, [160])) rfl) (decide_eq_true hc89)) ?_
                  refine Q.run zm210 1 (i' := 161) (ls' := [some (.ref 121), some (.int x1), some (.int (sI s 121 26)), some (.int r84), some (.int r87), none]) (st' := [.int 6, .ref 121]) rfl ?_
                  exact dt210_161 hd hq77.1  h
                · rw [if_neg hc89] at h
                  refine Q.map (A.zF (gI_of zm210 (e := (279, 3, .ifCond .eq 7, [160])) rfl) (fun q => hc89 (of_decide_eq_true q))) ?_
                  exact dt210_158 hd hq77.1  h
              · rw [if_neg hc88] at h
                refine Q.map (A.zT (gI_of zm210 (e := (274, 3, .ifCond .ne 8, [158])) rfl) (decide_eq_true hc88)) ?_
                exact dt210_158 hd hq77.1  h
            · rw [if_neg hc81] at h
              refine Q.map (A.zF (gI_of zm210 (e := (238, 3, .ifCond .eq 11, [139])) rfl) (fun q => hc81 (of_decide_eq_true q))) ?_
              refine Q.run zm210 2 (i' := 137) (ls' := [some (.ref 121), some (.int x1), some (.int (sI s 121 26)), none, none, none]) (st' := [.int (-1), .ref 121]) rfl ?_
              obtain ⟨s92, hc91, h⟩ := bu_so h
              have hq90 : Q 2 sio tt cc d 209 0 [some (.ref 121), some (.int (-1)), none, none] [] s79 (.inl none, s92) := dt209 (by omega) hq77.1  hc91
              refine Q.callV (gC_vi zm210 (show zM210.2.2.2.2.2[137]? = some (243, 3, .invokevirtual 231, [0, 209, 1, 9]) from rfl) zm209 (hq77.1.lt (a := 121) (by decide)) (hq77.1.T (a := 121) (p := (9, 45)) 43 rfl rfl) rfl (show aCr 1 121 [.int (-1), .ref 121] 4 = some ([some (.ref 121), some (.int (-1)), none, none], []) from rfl)) hq90 ?_
              refine Q.run zm210 1 (i' := 186) (ls' := [some (.ref 121), some (.int x1), some (.int (sI s 121 26)), none, none, none]) (st' := []) rfl ?_
              cases h
              exact Q.ret (A.rv zm210 (show zM210.2.2.2.2.2[186]? = some (336, 1, .return_, []) from rfl) rfl) hq90.1
    · rw [if_neg hc7] at h
      refine Q.map (A.zF (gI_of zm210 (e := (16, 3, .ifCond .eq 16, [16])) rfl) (fun q => hc7 (of_decide_eq_true q))) ?_
      refine Q.run zm210 2 (i' := 11) (ls' := [some (.ref 121), some (.int x1), none, none, none, none]) (st' := [.ref 121, .ref 121]) rfl ?_
      refine Q.map (A.gf (gI_of zm210 (e := (21, 3, .getfield 138, [9, 26])) rfl) (hl.lt (a := 121) (by decide)) (hl.T (a := 121) (p := (9, 45)) 43 rfl rfl) (by decide) rfl) ?_
      refine Q.run zm210 2 (i' := 14) (ls' := [some (.ref 121), some (.int x1), none, none, none, none]) (st' := [.int ((sI s 121 26) + 1), .ref 121]) rfl ?_
      obtain ⟨s93, hs94, h⟩ := nx_so h
      refine Q.pf hs94 rfl (gI_of zm210 (e := (26, 3, .putfield 138, [9, 26, 0])) rfl) (hl.lt (a := 121) (by decide)) (by decide) (hl.T (a := 121) (p := (9, 45)) 43 rfl rfl) (by decide) rfl rfl ?_
      have hl95 : Ly tt cc s93 := by rw [hs94]; exact hl.wId (by decide)
      refine Q.run zm210 1 (i' := 3) (ls' := [some (.ref 121), some (.int x1), none, none, none, none]) (st' := []) rfl ?_
      exact ih hl95  h
def dm210 (s : aS) : Option (aS) :=
  dm210_3 5000 (sI s 121 26) s
set_option maxRecDepth 100000 in
theorem dt210 {sio : Bool} {tt : Nat} {cc : Nat → Nat → Int32} {d : Nat} (hd : 4 ≤ d) {s : aS} (hl : Ly tt cc s) {o : aS} (h : dm210  s = some o) : Q 2 sio tt cc d 210 0 [some (.ref 121), none, none, none, none, none] [] s (.inl none, o) := by
  unfold dm210 at h
  obtain ⟨d, rfl⟩ : ∃ e, d = e + 1 := ⟨d - 1, by omega⟩
  refine Q.run zm210 1 (i' := 1) (ls' := [some (.ref 121), none, none, none, none, none]) (st' := [.ref 121]) rfl ?_
  refine Q.map (A.gf (gI_of zm210 (e := (1, 3, .getfield 138, [9, 26])) rfl) (hl.lt (a := 121) (by decide)) (hl.T (a := 121) (p := (9, 45)) 43 rfl rfl) (by decide) rfl) ?_
  refine Q.run zm210 1 (i' := 3) (ls' := [some (.ref 121), some (.int (sI s 121 26)), none, none, none, none]) (st' := []) rfl ?_
  exact dt210_3 hd _ hl  h
/-! 195 FormulaTreesModel.readPrimary()V -/
set_option maxRecDepth 100000 in
theorem zm195 : zP[195]? = some zM195 := rfl
def dm195_53 (s : aS) : Option (aS) :=
  bu (dm199 s) fun s3 =>
  some s3
set_option maxRecDepth 100000 in
theorem dt195_53 {sio : Bool} {tt : Nat} {cc : Nat → Nat → Int32} {d : Nat} (hd : 5 ≤ d) {x1 : Int32} {x2 : Int32} {s : aS} (hl : Ly tt cc s) {o : aS} (h : dm195_53  s = some o) : Q 2 sio tt cc d 195 53 [some (.ref 121), some (.int x1), some (.int x2)] [] s (.inl none, o) := by
  unfold dm195_53 at h
  obtain ⟨d, rfl⟩ : ∃ e, d = e + 1 := ⟨d - 1, by omega⟩
  refine Q.run zm195 1 (i' := 54) (ls' := [some (.ref 121), some (.int x1), some (.int x2)]) (st' := [.ref 121]) rfl ?_
  obtain ⟨s3, hc2, h⟩ := bu_so h
  have hq1 : Q 2 sio tt cc d 199 0 [some (.ref 121), none, none, none, none] [] s (.inl none, s3) := dt199 (by omega) hl  hc2
  refine Q.callV (gC_vi zm195 (show zM195.2.2.2.2.2[54]? = some (106, 3, .invokevirtual 261, [0, 199, 0, 9]) from rfl) zm199 (hl.lt (a := 121) (by decide)) (hl.T (a := 121) (p := (9, 45)) 43 rfl rfl) rfl (show aCr 0 121 [.ref 121] 5 = some ([some (.ref 121), none, none, none, none], []) from rfl)) hq1 ?_
  refine Q.run zm195 1 (i' := 88) (ls' := [some (.ref 121), some (.int x1), some (.int x2)]) (st' := []) rfl ?_
  cases h
  exact Q.ret (A.rv zm195 (show zM195.2.2.2.2.2[88]? = some (180, 1, .return_, []) from rfl) rfl) hq1.1
def dm195_36 (s : aS) : Option (aS) :=
  bu (dm186 (sI s 121 26) s) fun s3 =>
  some s3
set_option maxRecDepth 100000 in
theorem dt195_36 {sio : Bool} {tt : Nat} {cc : Nat → Nat → Int32} {d : Nat} (hd : 5 ≤ d) {x1 : Int32} {x2 : Int32} {s : aS} (hl : Ly tt cc s) {o : aS} (h : dm195_36  s = some o) : Q 2 sio tt cc d 195 36 [some (.ref 121), some (.int x1), some (.int x2)] [] s (.inl none, o) := by
  unfold dm195_36 at h
  obtain ⟨d, rfl⟩ : ∃ e, d = e + 1 := ⟨d - 1, by omega⟩
  refine Q.run zm195 2 (i' := 38) (ls' := [some (.ref 121), some (.int x1), some (.int x2)]) (st' := [.ref 121, .ref 121]) rfl ?_
  refine Q.map (A.gf (gI_of zm195 (e := (75, 3, .getfield 138, [9, 26])) rfl) (hl.lt (a := 121) (by decide)) (hl.T (a := 121) (p := (9, 45)) 43 rfl rfl) (by decide) rfl) ?_
  obtain ⟨s3, hc2, h⟩ := bu_so h
  have hq1 : Q 2 sio tt cc d 186 0 [some (.ref 121), some (.int (sI s 121 26))] [] s (.inl none, s3) := dt186 (by omega) hl  hc2
  refine Q.callV (gC_vi zm195 (show zM195.2.2.2.2.2[39]? = some (78, 3, .invokevirtual 164, [0, 186, 1, 9]) from rfl) zm186 (hl.lt (a := 121) (by decide)) (hl.T (a := 121) (p := (9, 45)) 43 rfl rfl) rfl (show aCr 1 121 [.int (sI s 121 26), .ref 121] 2 = some ([some (.ref 121), some (.int (sI s 121 26))], []) from rfl)) hq1 ?_
  cases h
  exact Q.ret (A.rv zm195 (show zM195.2.2.2.2.2[40]? = some (81, 1, .return_, []) from rfl) rfl) hq1.1
def dm195_29 (x1 : Int32) (y0 : Int32) (s : aS) : Option (aS) :=
  if y0 = 0 then
    dm195_36 s
  else
    if (sI s 121 21) = 128 then
      dm195_36 s
    else
      nx (wI s 121 36 0) fun s3 =>
      nx (wI s3 121 35 0) fun s6 =>
      bu (dm196 x1) fun r11 =>
      if r11 = 0 then
        if x1 = 46 then
          dm195_53 s6
        else
          if x1 = 34 then
            bu (dm201 s6) fun s17 =>
            some s17
          else
            if x1 = 35 then
              bu (dm203 s6) fun s21 =>
              some s21
            else
              if x1 = 39 then
                bu (dm205 s6) fun s25 =>
                some s25
              else
                if x1 = 36 then
                  bu (dm207 s6) fun s29 =>
                  if (sI s29 121 27) = 0 then
                    bu (dm209 (-1) s29) fun s33 =>
                    some s33
                  else
                    some s29
                else
                  bu (dm210 s6) fun s36 =>
                  some s36
      else
        dm195_53 s6
set_option maxRecDepth 100000 in
theorem dt195_29 {sio : Bool} {tt : Nat} {cc : Nat → Nat → Int32} {d : Nat} (hd : 5 ≤ d) {x1 : Int32} {y0 : Int32} {s : aS} (hl : Ly tt cc s) {o : aS} (h : dm195_29  x1 y0 s = some o) : Q 2 sio tt cc d 195 29 [some (.ref 121), some (.int x1), none] [.int y0] s (.inl none, o) := by
  unfold dm195_29 at h
  obtain ⟨d, rfl⟩ : ∃ e, d = e + 1 := ⟨d - 1, by omega⟩
  refine Q.run zm195 2 (i' := 31) (ls' := [some (.ref 121), some (.int x1), some (.int y0)]) (st' := [.int y0]) rfl ?_
  by_cases hc1 : y0 = 0
  · rw [if_pos hc1] at h
    refine Q.map (A.zT (gI_of zm195 (e := (60, 3, .ifCond .eq 13, [36])) rfl) (decide_eq_true hc1)) ?_
    exact dt195_36 hd hl  h
  · rw [if_neg hc1] at h
    refine Q.map (A.zF (gI_of zm195 (e := (60, 3, .ifCond .eq 13, [36])) rfl) (fun q => hc1 (of_decide_eq_true q))) ?_
    refine Q.run zm195 1 (i' := 33) (ls' := [some (.ref 121), some (.int x1), some (.int y0)]) (st' := [.ref 121]) rfl ?_
    refine Q.map (A.gf (gI_of zm195 (e := (64, 3, .getfield 141, [9, 21])) rfl) (hl.lt (a := 121) (by decide)) (hl.T (a := 121) (p := (9, 45)) 43 rfl rfl) (by decide) rfl) ?_
    refine Q.run zm195 1 (i' := 35) (ls' := [some (.ref 121), some (.int x1), some (.int y0)]) (st' := [.int 128, .int (sI s 121 21)]) rfl ?_
    by_cases hc2 : (sI s 121 21) = 128
    · rw [if_pos hc2] at h
      refine Q.map (A.bF (gI_of zm195 (e := (70, 3, .if_icmp .ne 12, [41])) rfl) (fun q => of_decide_eq_true q hc2)) ?_
      exact dt195_36 hd hl  h
    · rw [if_neg hc2] at h
      refine Q.map (A.bT (gI_of zm195 (e := (70, 3, .if_icmp .ne 12, [41])) rfl) (decide_eq_true hc2)) ?_
      refine Q.run zm195 2 (i' := 43) (ls' := [some (.ref 121), some (.int x1), some (.int y0)]) (st' := [.int 0, .ref 121]) rfl ?_
      obtain ⟨s3, hs4, h⟩ := nx_so h
      refine Q.pf hs4 rfl (gI_of zm195 (e := (84, 3, .putfield 246, [9, 36, 1])) rfl) (hl.lt (a := 121) (by decide)) (by decide) (hl.T (a := 121) (p := (9, 45)) 43 rfl rfl) (by decide) rfl rfl ?_
      have hl5 : Ly tt cc s3 := by rw [hs4]; exact hl.wId (by decide)
      refine Q.run zm195 2 (i' := 46) (ls' := [some (.ref 121), some (.int x1), some (.int y0)]) (st' := [.int 0, .ref 121]) rfl ?_
      obtain ⟨s6, hs7, h⟩ := nx_so h
      refine Q.pf hs7 rfl (gI_of zm195 (e := (89, 3, .putfield 243, [9, 35, 0])) rfl) (hl5.lt (a := 121) (by decide)) (by decide) (hl5.T (a := 121) (p := (9, 45)) 43 rfl rfl) (by decide) rfl rfl ?_
      have hl8 : Ly tt cc s6 := by rw [hs7]; exact hl5.wId (by decide)
      refine Q.run zm195 1 (i' := 48) (ls' := [some (.ref 121), some (.int x1), some (.int y0)]) (st' := [.int x1]) rfl ?_
      obtain ⟨r11, hc10, h⟩ := bu_so h
      have hq9 : Q 2 sio tt cc d 196 0 [some (.int x1)] [] s6 (.inl (some (.int r11)), s6) := dt196 (by omega) hl8  hc10
      refine Q.callI (gC_st zm195 (show zM195.2.2.2.2.2[48]? = some (93, 3, .invokestatic 100, [0, 196, 1]) from rfl) zm196 (show aC 1 [.int x1] 1 = some ([some (.int x1)], []) from rfl)) hq9 ?_
      by_cases hc12 : r11 = 0
      · rw [if_pos hc12] at h
        refine Q.map (A.zF (gI_of zm195 (e := (96, 3, .ifCond .ne 9, [53])) rfl) (fun q => of_decide_eq_true q hc12)) ?_
        refine Q.run zm195 2 (i' := 52) (ls' := [some (.ref 121), some (.int x1), some (.int y0)]) (st' := [.int 46, .int x1]) rfl ?_
        by_cases hc13 : x1 = 46
        · rw [if_pos hc13] at h
          refine Q.map (A.bF (gI_of zm195 (e := (102, 3, .if_icmp .ne 10, [56])) rfl) (fun q => of_decide_eq_true q hc13)) ?_
          exact dt195_53 hd hl8  h
        · rw [if_neg hc13] at h
          refine Q.map (A.bT (gI_of zm195 (e := (102, 3, .if_icmp .ne 10, [56])) rfl) (decide_eq_true hc13)) ?_
          refine Q.run zm195 2 (i' := 58) (ls' := [some (.ref 121), some (.int x1), some (.int y0)]) (st' := [.int 34, .int x1]) rfl ?_
          by_cases hc14 : x1 = 34
          · rw [if_pos hc14] at h
            refine Q.map (A.bF (gI_of zm195 (e := (115, 3, .if_icmp .ne 10, [62])) rfl) (fun q => of_decide_eq_true q hc14)) ?_
            refine Q.run zm195 1 (i' := 60) (ls' := [some (.ref 121), some (.int x1), some (.int y0)]) (st' := [.ref 121]) rfl ?_
            obtain ⟨s17, hc16, h⟩ := bu_so h
            have hq15 : Q 2 sio tt cc d 201 0 [some (.ref 121), none, none] [] s6 (.inl none, s17) := dt201 (by omega) hl8  hc16
            refine Q.callV (gC_vi zm195 (show zM195.2.2.2.2.2[60]? = some (119, 3, .invokevirtual 264, [0, 201, 0, 9]) from rfl) zm201 (hl8.lt (a := 121) (by decide)) (hl8.T (a := 121) (p := (9, 45)) 43 rfl rfl) rfl (show aCr 0 121 [.ref 121] 3 = some ([some (.ref 121), none, none], []) from rfl)) hq15 ?_
            refine Q.run zm195 1 (i' := 88) (ls' := [some (.ref 121), some (.int x1), some (.int y0)]) (st' := []) rfl ?_
            cases h
            exact Q.ret (A.rv zm195 (show zM195.2.2.2.2.2[88]? = some (180, 1, .return_, []) from rfl) rfl) hq15.1
          · rw [if_neg hc14] at h
            refine Q.map (A.bT (gI_of zm195 (e := (115, 3, .if_icmp .ne 10, [62])) rfl) (decide_eq_true hc14)) ?_
            refine Q.run zm195 2 (i' := 64) (ls' := [some (.ref 121), some (.int x1), some (.int y0)]) (st' := [.int 35, .int x1]) rfl ?_
            by_cases hc18 : x1 = 35
            · rw [if_pos hc18] at h
              refine Q.map (A.bF (gI_of zm195 (e := (128, 3, .if_icmp .ne 10, [68])) rfl) (fun q => of_decide_eq_true q hc18)) ?_
              refine Q.run zm195 1 (i' := 66) (ls' := [some (.ref 121), some (.int x1), some (.int y0)]) (st' := [.ref 121]) rfl ?_
              obtain ⟨s21, hc20, h⟩ := bu_so h
              have hq19 : Q 2 sio tt cc d 203 0 [some (.ref 121), none, none, none, none, none, none, none] [] s6 (.inl none, s21) := dt203 (by omega) hl8  hc20
              refine Q.callV (gC_vi zm195 (show zM195.2.2.2.2.2[66]? = some (132, 3, .invokevirtual 267, [0, 203, 0, 9]) from rfl) zm203 (hl8.lt (a := 121) (by decide)) (hl8.T (a := 121) (p := (9, 45)) 43 rfl rfl) rfl (show aCr 0 121 [.ref 121] 8 = some ([some (.ref 121), none, none, none, none, none, none, none], []) from rfl)) hq19 ?_
              refine Q.run zm195 1 (i' := 88) (ls' := [some (.ref 121), some (.int x1), some (.int y0)]) (st' := []) rfl ?_
              cases h
              exact Q.ret (A.rv zm195 (show zM195.2.2.2.2.2[88]? = some (180, 1, .return_, []) from rfl) rfl) hq19.1
            · rw [if_neg hc18] at h
              refine Q.map (A.bT (gI_of zm195 (e := (128, 3, .if_icmp .ne 10, [68])) rfl) (decide_eq_true hc18)) ?_
              refine Q.run zm195 2 (i' := 70) (ls' := [some (.ref 121), some (.int x1), some (.int y0)]) (st' := [.int 39, .int x1]) rfl ?_
              by_cases hc22 : x1 = 39
              · rw [if_pos hc22] at h
                refine Q.map (A.bF (gI_of zm195 (e := (141, 3, .if_icmp .ne 10, [74])) rfl) (fun q => of_decide_eq_true q hc22)) ?_
                refine Q.run zm195 1 (i' := 72) (ls' := [some (.ref 121), some (.int x1), some (.int y0)]) (st' := [.ref 121]) rfl ?_
                obtain ⟨s25, hc24, h⟩ := bu_so h
                have hq23 : Q 2 sio tt cc d 205 0 [some (.ref 121), none] [] s6 (.inl none, s25) := dt205 (by omega) hl8  hc24
                refine Q.callV (gC_vi zm195 (show zM195.2.2.2.2.2[72]? = some (145, 3, .invokevirtual 270, [0, 205, 0, 9]) from rfl) zm205 (hl8.lt (a := 121) (by decide)) (hl8.T (a := 121) (p := (9, 45)) 43 rfl rfl) rfl (show aCr 0 121 [.ref 121] 2 = some ([some (.ref 121), none], []) from rfl)) hq23 ?_
                refine Q.run zm195 1 (i' := 88) (ls' := [some (.ref 121), some (.int x1), some (.int y0)]) (st' := []) rfl ?_
                cases h
                exact Q.ret (A.rv zm195 (show zM195.2.2.2.2.2[88]? = some (180, 1, .return_, []) from rfl) rfl) hq23.1
              · rw [if_neg hc22] at h
                refine Q.map (A.bT (gI_of zm195 (e := (141, 3, .if_icmp .ne 10, [74])) rfl) (decide_eq_true hc22)) ?_
                refine Q.run zm195 2 (i' := 76) (ls' := [some (.ref 121), some (.int x1), some (.int y0)]) (st' := [.int 36, .int x1]) rfl ?_
                by_cases hc26 : x1 = 36
                · rw [if_pos hc26] at h
                  refine Q.map (A.bF (gI_of zm195 (e := (154, 3, .if_icmp .ne 22, [86])) rfl) (fun q => of_decide_eq_true q hc26)) ?_
                  refine Q.run zm195 1 (i' := 78) (ls' := [some (.ref 121), some (.int x1), some (.int y0)]) (st' := [.ref 121]) rfl ?_
                  obtain ⟨s29, hc28, h⟩ := bu_so h
                  have hq27 : Q 2 sio tt cc d 207 0 [some (.ref 121), none] [] s6 (.inl none, s29) := dt207 (by omega) hl8  hc28
                  refine Q.callV (gC_vi zm195 (show zM195.2.2.2.2.2[78]? = some (158, 3, .invokevirtual 216, [0, 207, 0, 9]) from rfl) zm207 (hl8.lt (a := 121) (by decide)) (hl8.T (a := 121) (p := (9, 45)) 43 rfl rfl) rfl (show aCr 0 121 [.ref 121] 2 = some ([some (.ref 121), none], []) from rfl)) hq27 ?_
                  refine Q.run zm195 1 (i' := 80) (ls' := [some (.ref 121), some (.int x1), some (.int y0)]) (st' := [.ref 121]) rfl ?_
                  refine Q.map (A.gf (gI_of zm195 (e := (162, 3, .getfield 134, [9, 27])) rfl) (hq27.1.lt (a := 121) (by decide)) (hq27.1.T (a := 121) (p := (9, 45)) 43 rfl rfl) (by decide) rfl) ?_
                  by_cases hc30 : (sI s29 121 27) = 0
                  · rw [if_pos hc30] at h
                    refine Q.map (A.zF (gI_of zm195 (e := (165, 3, .ifCond .ne 15, [88])) rfl) (fun q => of_decide_eq_true q hc30)) ?_
                    refine Q.run zm195 2 (i' := 84) (ls' := [some (.ref 121), some (.int x1), some (.int y0)]) (st' := [.int (-1), .ref 121]) rfl ?_
                    obtain ⟨s33, hc32, h⟩ := bu_so h
                    have hq31 : Q 2 sio tt cc d 209 0 [some (.ref 121), some (.int (-1)), none, none] [] s29 (.inl none, s33) := dt209 (by omega) hq27.1  hc32
                    refine Q.callV (gC_vi zm195 (show zM195.2.2.2.2.2[84]? = some (170, 3, .invokevirtual 231, [0, 209, 1, 9]) from rfl) zm209 (hq27.1.lt (a := 121) (by decide)) (hq27.1.T (a := 121) (p := (9, 45)) 43 rfl rfl) rfl (show aCr 1 121 [.int (-1), .ref 121] 4 = some ([some (.ref 121), some (.int (-1)), none, none], []) from rfl)) hq31 ?_
                    refine Q.run zm195 1 (i' := 88) (ls' := [some (.ref 121), some (.int x1), some (.int y0)]) (st' := []) rfl ?_
                    cases h
                    exact Q.ret (A.rv zm195 (show zM195.2.2.2.2.2[88]? = some (180, 1, .return_, []) from rfl) rfl) hq31.1
                  · rw [if_neg hc30] at h
                    refine Q.map (A.zT (gI_of zm195 (e := (165, 3, .ifCond .ne 15, [88])) rfl) (decide_eq_true hc30)) ?_
                    cases h
                    exact Q.ret (A.rv zm195 (show zM195.2.2.2.2.2[88]? = some (180, 1, .return_, []) from rfl) rfl) hq27.1
                · rw [if_neg hc26] at h
                  refine Q.map (A.bT (gI_of zm195 (e := (154, 3, .if_icmp .ne 22, [86])) rfl) (decide_eq_true hc26)) ?_
                  refine Q.run zm195 1 (i' := 87) (ls' := [some (.ref 121), some (.int x1), some (.int y0)]) (st' := [.ref 121]) rfl ?_
                  obtain ⟨s36, hc35, h⟩ := bu_so h
                  have hq34 : Q 2 sio tt cc d 210 0 [some (.ref 121), none, none, none, none, none] [] s6 (.inl none, s36) := dt210 (by omega) hl8  hc35
                  refine Q.callV (gC_vi zm195 (show zM195.2.2.2.2.2[87]? = some (177, 3, .invokevirtual 273, [0, 210, 0, 9]) from rfl) zm210 (hl8.lt (a := 121) (by decide)) (hl8.T (a := 121) (p := (9, 45)) 43 rfl rfl) rfl (show aCr 0 121 [.ref 121] 6 = some ([some (.ref 121), none, none, none, none, none], []) from rfl)) hq34 ?_
                  cases h
                  exact Q.ret (A.rv zm195 (show zM195.2.2.2.2.2[88]? = some (180, 1, .return_, []) from rfl) rfl) hq34.1
      · rw [if_neg hc12] at h
        refine Q.map (A.zT (gI_of zm195 (e := (96, 3, .ifCond .ne 9, [53])) rfl) (decide_eq_true hc12)) ?_
        exact dt195_53 hd hl8  h
def dm195_26 (x1 : Int32) (s : aS) : Option (aS) :=
  dm195_29 x1 1 s
set_option maxRecDepth 100000 in
theorem dt195_26 {sio : Bool} {tt : Nat} {cc : Nat → Nat → Int32} {d : Nat} (hd : 5 ≤ d) {x1 : Int32} {s : aS} (hl : Ly tt cc s) {o : aS} (h : dm195_26  x1 s = some o) : Q 2 sio tt cc d 195 26 [some (.ref 121), some (.int x1), none] [] s (.inl none, o) := by
  unfold dm195_26 at h
  obtain ⟨d, rfl⟩ : ∃ e, d = e + 1 := ⟨d - 1, by omega⟩
  refine Q.run zm195 2 (i' := 29) (ls' := [some (.ref 121), some (.int x1), none]) (st' := [.int 1]) rfl ?_
  exact dt195_29 hd hl  h
def dm195 (s : aS) : Option (aS) :=
  bu (dm176 (sI s 121 26) s) fun r3 =>
  bu (dm196 r3) fun r6 =>
  if r6 = 0 then
    if r3 = 46 then
      dm195_26 r3 s
    else
      if r3 = 34 then
        dm195_26 r3 s
      else
        if r3 = 35 then
          dm195_26 r3 s
        else
          bu (dm197 r3) fun r13 =>
          if r13 = 0 then
            if r3 = 36 then
              dm195_26 r3 s
            else
              if r3 = 39 then
                dm195_26 r3 s
              else
                dm195_29 r3 0 s
          else
            dm195_26 r3 s
  else
    dm195_26 r3 s
set_option maxRecDepth 100000 in
theorem dt195 {sio : Bool} {tt : Nat} {cc : Nat → Nat → Int32} {d : Nat} (hd : 5 ≤ d) {s : aS} (hl : Ly tt cc s) {o : aS} (h : dm195  s = some o) : Q 2 sio tt cc d 195 0 [some (.ref 121), none, none] [] s (.inl none, o) := by
  unfold dm195 at h
  obtain ⟨d, rfl⟩ : ∃ e, d = e + 1 := ⟨d - 1, by omega⟩
  refine Q.run zm195 2 (i' := 2) (ls' := [some (.ref 121), none, none]) (st' := [.ref 121, .ref 121]) rfl ?_
  refine Q.map (A.gf (gI_of zm195 (e := (2, 3, .getfield 138, [9, 26])) rfl) (hl.lt (a := 121) (by decide)) (hl.T (a := 121) (p := (9, 45)) 43 rfl rfl) (by decide) rfl) ?_
  obtain ⟨r3, hc2, h⟩ := bu_so h
  have hq1 : Q 2 sio tt cc d 176 0 [some (.ref 121), some (.int (sI s 121 26))] [] s (.inl (some (.int r3)), s) := dt176 (by omega) hl  hc2
  refine Q.callI (gC_vi zm195 (show zM195.2.2.2.2.2[3]? = some (5, 3, .invokevirtual 113, [0, 176, 1, 9]) from rfl) zm176 (hl.lt (a := 121) (by decide)) (hl.T (a := 121) (p := (9, 45)) 43 rfl rfl) rfl (show aCr 1 121 [.int (sI s 121 26), .ref 121] 2 = some ([some (.ref 121), some (.int (sI s 121 26))], []) from rfl)) hq1 ?_
  refine Q.run zm195 2 (i' := 6) (ls' := [some (.ref 121), some (.int r3), none]) (st' := [.int r3]) rfl ?_
  obtain ⟨r6, hc5, h⟩ := bu_so h
  have hq4 : Q 2 sio tt cc d 196 0 [some (.int r3)] [] s (.inl (some (.int r6)), s) := dt196 (by omega) hl  hc5
  refine Q.callI (gC_st zm195 (show zM195.2.2.2.2.2[6]? = some (10, 3, .invokestatic 100, [0, 196, 1]) from rfl) zm196 (show aC 1 [.int r3] 1 = some ([some (.int r3)], []) from rfl)) hq4 ?_
  by_cases hc7 : r6 = 0
  · rw [if_pos hc7] at h
    refine Q.map (A.zF (gI_of zm195 (e := (13, 3, .ifCond .ne 40, [26])) rfl) (fun q => of_decide_eq_true q hc7)) ?_
    refine Q.run zm195 2 (i' := 10) (ls' := [some (.ref 121), some (.int r3), none]) (st' := [.int 46, .int r3]) rfl ?_
    by_cases hc8 : r3 = 46
    · rw [if_pos hc8] at h
      refine Q.map (A.bT (gI_of zm195 (e := (19, 3, .if_icmp .eq 34, [26])) rfl) (decide_eq_true hc8)) ?_
      exact dt195_26 hd hl  h
    · rw [if_neg hc8] at h
      refine Q.map (A.bF (gI_of zm195 (e := (19, 3, .if_icmp .eq 34, [26])) rfl) (fun q => hc8 (of_decide_eq_true q))) ?_
      refine Q.run zm195 2 (i' := 13) (ls' := [some (.ref 121), some (.int r3), none]) (st' := [.int 34, .int r3]) rfl ?_
      by_cases hc9 : r3 = 34
      · rw [if_pos hc9] at h
        refine Q.map (A.bT (gI_of zm195 (e := (25, 3, .if_icmp .eq 28, [26])) rfl) (decide_eq_true hc9)) ?_
        exact dt195_26 hd hl  h
      · rw [if_neg hc9] at h
        refine Q.map (A.bF (gI_of zm195 (e := (25, 3, .if_icmp .eq 28, [26])) rfl) (fun q => hc9 (of_decide_eq_true q))) ?_
        refine Q.run zm195 2 (i' := 16) (ls' := [some (.ref 121), some (.int r3), none]) (st' := [.int 35, .int r3]) rfl ?_
        by_cases hc10 : r3 = 35
        · rw [if_pos hc10] at h
          refine Q.map (A.bT (gI_of zm195 (e := (31, 3, .if_icmp .eq 22, [26])) rfl) (decide_eq_true hc10)) ?_
          exact dt195_26 hd hl  h
        · rw [if_neg hc10] at h
          refine Q.map (A.bF (gI_of zm195 (e := (31, 3, .if_icmp .eq 22, [26])) rfl) (fun q => hc10 (of_decide_eq_true q))) ?_
          refine Q.run zm195 1 (i' := 18) (ls' := [some (.ref 121), some (.int r3), none]) (st' := [.int r3]) rfl ?_
          obtain ⟨r13, hc12, h⟩ := bu_so h
          have hq11 : Q 2 sio tt cc d 197 0 [some (.int r3)] [] s (.inl (some (.int r13)), s) := dt197 (by omega) hl  hc12
          refine Q.callI (gC_st zm195 (show zM195.2.2.2.2.2[18]? = some (35, 3, .invokestatic 97, [0, 197, 1]) from rfl) zm197 (show aC 1 [.int r3] 1 = some ([some (.int r3)], []) from rfl)) hq11 ?_
          by_cases hc14 : r13 = 0
          · rw [if_pos hc14] at h
            refine Q.map (A.zF (gI_of zm195 (e := (38, 3, .ifCond .ne 15, [26])) rfl) (fun q => of_decide_eq_true q hc14)) ?_
            refine Q.run zm195 2 (i' := 22) (ls' := [some (.ref 121), some (.int r3), none]) (st' := [.int 36, .int r3]) rfl ?_
            by_cases hc15 : r3 = 36
            · rw [if_pos hc15] at h
              refine Q.map (A.bT (gI_of zm195 (e := (44, 3, .if_icmp .eq 9, [26])) rfl) (decide_eq_true hc15)) ?_
              exact dt195_26 hd hl  h
            · rw [if_neg hc15] at h
              refine Q.map (A.bF (gI_of zm195 (e := (44, 3, .if_icmp .eq 9, [26])) rfl) (fun q => hc15 (of_decide_eq_true q))) ?_
              refine Q.run zm195 2 (i' := 25) (ls' := [some (.ref 121), some (.int r3), none]) (st' := [.int 39, .int r3]) rfl ?_
              by_cases hc16 : r3 = 39
              · rw [if_pos hc16] at h
                refine Q.map (A.bF (gI_of zm195 (e := (50, 3, .if_icmp .ne 7, [28])) rfl) (fun q => of_decide_eq_true q hc16)) ?_
                exact dt195_26 hd hl  h
              · rw [if_neg hc16] at h
                refine Q.map (A.bT (gI_of zm195 (e := (50, 3, .if_icmp .ne 7, [28])) rfl) (decide_eq_true hc16)) ?_
                refine Q.run zm195 1 (i' := 29) (ls' := [some (.ref 121), some (.int r3), none]) (st' := [.int 0]) rfl ?_
                exact dt195_29 hd hl  h
          · rw [if_neg hc14] at h
            refine Q.map (A.zT (gI_of zm195 (e := (38, 3, .ifCond .ne 15, [26])) rfl) (decide_eq_true hc14)) ?_
            exact dt195_26 hd hl  h
  · rw [if_neg hc7] at h
    refine Q.map (A.zT (gI_of zm195 (e := (13, 3, .ifCond .ne 40, [26])) rfl) (decide_eq_true hc7)) ?_
    exact dt195_26 hd hl  h
end
section
/-! 185 FormulaTreesModel.readOperand()V -/
set_option maxRecDepth 100000 in
theorem zm185 : zP[185]? = some zM185 := rfl
def dm185_118 (s : aS) : Option (aS) :=
  bu (dm195 s) fun s3 =>
  some s3
set_option maxRecDepth 100000 in
theorem dt185_118 {sio : Bool} {tt : Nat} {cc : Nat → Nat → Int32} {d : Nat} (hd : 6 ≤ d) {x1 : Int32} {s : aS} (hl : Ly tt cc s) {o : aS} (h : dm185_118  s = some o) : Q 2 sio tt cc d 185 118 [some (.ref 121), some (.int x1)] [] s (.inl none, o) := by
  unfold dm185_118 at h
  obtain ⟨d, rfl⟩ : ∃ e, d = e + 1 := ⟨d - 1, by omega⟩
  refine Q.run zm185 1 (i' := 119) (ls' := [some (.ref 121), some (.int x1)]) (st' := [.ref 121]) rfl ?_
  obtain ⟨s3, hc2, h⟩ := bu_so h
  have hq1 : Q 2 sio tt cc d 195 0 [some (.ref 121), none, none] [] s (.inl none, s3) := dt195 (by omega) hl  hc2
  refine Q.callV (gC_vi zm185 (show zM185.2.2.2.2.2[119]? = some (230, 3, .invokevirtual 279, [0, 195, 0, 9]) from rfl) zm195 (hl.lt (a := 121) (by decide)) (hl.T (a := 121) (p := (9, 45)) 43 rfl rfl) rfl (show aCr 0 121 [.ref 121] 3 = some ([some (.ref 121), none, none], []) from rfl)) hq1 ?_
  cases h
  exact Q.ret (A.rv zm185 (show zM185.2.2.2.2.2[120]? = some (233, 1, .return_, []) from rfl) rfl) hq1.1
def dm185_94 (s : aS) : Option (aS) :=
  if (sI s 121 35) ≤ 0 then
    dm185_118 s
  else
    if (sI s 121 21) = 128 then
      bu (dm186 (sI s 121 26) s) fun s5 =>
      some s5
    else
      bv (dm187 8 s) fun r9 s8 =>
      bu (dm194 r9 s8) fun s12 =>
      nx (wI s12 121 35 0) fun s13 =>
      nx (wI s13 121 36 0) fun s16 =>
      some s16
set_option maxRecDepth 100000 in
theorem dt185_94 {sio : Bool} {tt : Nat} {cc : Nat → Nat → Int32} {d : Nat} (hd : 6 ≤ d) {x1 : Int32} {s : aS} (hl : Ly tt cc s) {o : aS} (h : dm185_94  s = some o) : Q 2 sio tt cc d 185 94 [some (.ref 121), some (.int x1)] [] s (.inl none, o) := by
  unfold dm185_94 at h
  obtain ⟨d, rfl⟩ : ∃ e, d = e + 1 := ⟨d - 1, by omega⟩
  refine Q.run zm185 1 (i' := 95) (ls' := [some (.ref 121), some (.int x1)]) (st' := [.ref 121]) rfl ?_
  refine Q.map (A.gf (gI_of zm185 (e := (181, 3, .getfield 243, [9, 35])) rfl) (hl.lt (a := 121) (by decide)) (hl.T (a := 121) (p := (9, 45)) 43 rfl rfl) (by decide) rfl) ?_
  by_cases hc1 : (sI s 121 35) ≤ 0
  · rw [if_pos hc1] at h
    refine Q.map (A.zT (gI_of zm185 (e := (184, 3, .ifCond .le 45, [118])) rfl) (decide_eq_true hc1)) ?_
    exact dt185_118 hd hl  h
  · rw [if_neg hc1] at h
    refine Q.map (A.zF (gI_of zm185 (e := (184, 3, .ifCond .le 45, [118])) rfl) (fun q => hc1 (of_decide_eq_true q))) ?_
    refine Q.run zm185 1 (i' := 98) (ls' := [some (.ref 121), some (.int x1)]) (st' := [.ref 121]) rfl ?_
    refine Q.map (A.gf (gI_of zm185 (e := (188, 3, .getfield 141, [9, 21])) rfl) (hl.lt (a := 121) (by decide)) (hl.T (a := 121) (p := (9, 45)) 43 rfl rfl) (by decide) rfl) ?_
    refine Q.run zm185 1 (i' := 100) (ls' := [some (.ref 121), some (.int x1)]) (st' := [.int 128, .int (sI s 121 21)]) rfl ?_
    by_cases hc2 : (sI s 121 21) = 128
    · rw [if_pos hc2] at h
      refine Q.map (A.bF (gI_of zm185 (e := (194, 3, .if_icmp .ne 12, [106])) rfl) (fun q => of_decide_eq_true q hc2)) ?_
      refine Q.run zm185 2 (i' := 103) (ls' := [some (.ref 121), some (.int x1)]) (st' := [.ref 121, .ref 121]) rfl ?_
      refine Q.map (A.gf (gI_of zm185 (e := (199, 3, .getfield 138, [9, 26])) rfl) (hl.lt (a := 121) (by decide)) (hl.T (a := 121) (p := (9, 45)) 43 rfl rfl) (by decide) rfl) ?_
      obtain ⟨s5, hc4, h⟩ := bu_so h
      have hq3 : Q 2 sio tt cc d 186 0 [some (.ref 121), some (.int (sI s 121 26))] [] s (.inl none, s5) := dt186 (by omega) hl  hc4
      refine Q.callV (gC_vi zm185 (show zM185.2.2.2.2.2[104]? = some (202, 3, .invokevirtual 164, [0, 186, 1, 9]) from rfl) zm186 (hl.lt (a := 121) (by decide)) (hl.T (a := 121) (p := (9, 45)) 43 rfl rfl) rfl (show aCr 1 121 [.int (sI s 121 26), .ref 121] 2 = some ([some (.ref 121), some (.int (sI s 121 26))], []) from rfl)) hq3 ?_
      cases h
      exact Q.ret (A.rv zm185 (show zM185.2.2.2.2.2[105]? = some (205, 1, .return_, []) from rfl) rfl) hq3.1
    · rw [if_neg hc2] at h
      refine Q.map (A.bT (gI_of zm185 (e := (194, 3, .if_icmp .ne 12, [106])) rfl) (decide_eq_true hc2)) ?_
      refine Q.run zm185 3 (i' := 109) (ls' := [some (.ref 121), some (.int x1)]) (st' := [.int 8, .ref 121, .ref 121]) rfl ?_
      obtain ⟨r9, s8, hc7, h⟩ := bv_so h
      have hq6 : Q 2 sio tt cc d 187 0 [some (.ref 121), some (.int 8), none, none] [] s (.inl (some (.int r9)), s8) := dt187 (by omega) hl  hc7
      refine Q.callI (gC_vi zm185 (show zM185.2.2.2.2.2[109]? = some (210, 3, .invokevirtual 167, [0, 187, 1, 9]) from rfl) zm187 (hl.lt (a := 121) (by decide)) (hl.T (a := 121) (p := (9, 45)) 43 rfl rfl) rfl (show aCr 1 121 [.int 8, .ref 121, .ref 121] 4 = some ([some (.ref 121), some (.int 8), none, none], [.ref 121]) from rfl)) hq6 ?_
      obtain ⟨s12, hc11, h⟩ := bu_so h
      have hq10 : Q 2 sio tt cc d 194 0 [some (.ref 121), some (.int r9)] [] s8 (.inl none, s12) := dt194 (by omega) hq6.1  hc11
      refine Q.callV (gC_vi zm185 (show zM185.2.2.2.2.2[110]? = some (213, 3, .invokevirtual 161, [0, 194, 1, 9]) from rfl) zm194 (hq6.1.lt (a := 121) (by decide)) (hq6.1.T (a := 121) (p := (9, 45)) 43 rfl rfl) rfl (show aCr 1 121 [.int r9, .ref 121] 2 = some ([some (.ref 121), some (.int r9)], []) from rfl)) hq10 ?_
      refine Q.run zm185 2 (i' := 113) (ls' := [some (.ref 121), some (.int x1)]) (st' := [.int 0, .ref 121]) rfl ?_
      obtain ⟨s13, hs14, h⟩ := nx_so h
      refine Q.pf hs14 rfl (gI_of zm185 (e := (218, 3, .putfield 243, [9, 35, 0])) rfl) (hq10.1.lt (a := 121) (by decide)) (by decide) (hq10.1.T (a := 121) (p := (9, 45)) 43 rfl rfl) (by decide) rfl rfl ?_
      have hl15 : Ly tt cc s13 := by rw [hs14]; exact hq10.1.wId (by decide)
      refine Q.run zm185 2 (i' := 116) (ls' := [some (.ref 121), some (.int x1)]) (st' := [.int 0, .ref 121]) rfl ?_
      obtain ⟨s16, hs17, h⟩ := nx_so h
      refine Q.pf hs17 rfl (gI_of zm185 (e := (223, 3, .putfield 246, [9, 36, 1])) rfl) (hl15.lt (a := 121) (by decide)) (by decide) (hl15.T (a := 121) (p := (9, 45)) 43 rfl rfl) (by decide) rfl rfl ?_
      have hl18 : Ly tt cc s16 := by rw [hs17]; exact hl15.wId (by decide)
      refine Q.run zm185 1 (i' := 120) (ls' := [some (.ref 121), some (.int x1)]) (st' := []) rfl ?_
      cases h
      exact Q.ret (A.rv zm185 (show zM185.2.2.2.2.2[120]? = some (233, 1, .return_, []) from rfl) rfl) hl18
def dm185_88 (x1 : Int32) (s : aS) : Option (aS) :=
  if x1 = 41 then
    dm185_94 s
  else
    if x1 = 44 then
      dm185_94 s
    else
      dm185_118 s
set_option maxRecDepth 100000 in
theorem dt185_88 {sio : Bool} {tt : Nat} {cc : Nat → Nat → Int32} {d : Nat} (hd : 6 ≤ d) {x1 : Int32} {s : aS} (hl : Ly tt cc s) {o : aS} (h : dm185_88  x1 s = some o) : Q 2 sio tt cc d 185 88 [some (.ref 121), some (.int x1)] [] s (.inl none, o) := by
  unfold dm185_88 at h
  obtain ⟨d, rfl⟩ : ∃ e, d = e + 1 := ⟨d - 1, by omega⟩
  refine Q.run zm185 2 (i' := 90) (ls' := [some (.ref 121), some (.int x1)]) (st' := [.int 41, .int x1]) rfl ?_
  by_cases hc1 : x1 = 41
  · rw [if_pos hc1] at h
    refine Q.map (A.bT (gI_of zm185 (e := (171, 3, .if_icmp .eq 9, [94])) rfl) (decide_eq_true hc1)) ?_
    exact dt185_94 hd hl  h
  · rw [if_neg hc1] at h
    refine Q.map (A.bF (gI_of zm185 (e := (171, 3, .if_icmp .eq 9, [94])) rfl) (fun q => hc1 (of_decide_eq_true q))) ?_
    refine Q.run zm185 2 (i' := 93) (ls' := [some (.ref 121), some (.int x1)]) (st' := [.int 44, .int x1]) rfl ?_
    by_cases hc2 : x1 = 44
    · rw [if_pos hc2] at h
      refine Q.map (A.bF (gI_of zm185 (e := (177, 3, .if_icmp .ne 52, [118])) rfl) (fun q => of_decide_eq_true q hc2)) ?_
      exact dt185_94 hd hl  h
    · rw [if_neg hc2] at h
      refine Q.map (A.bT (gI_of zm185 (e := (177, 3, .if_icmp .ne 52, [118])) rfl) (decide_eq_true hc2)) ?_
      exact dt185_118 hd hl  h
def dm185 (s : aS) : Option (aS) :=
  bu (dm176 (sI s 121 26) s) fun r3 =>
  if r3 = 43 then
    nx (wI s 121 35 0) fun s5 =>
    nx (wI s5 121 26 ((sI s5 121 26) + 1)) fun s8 =>
    some s8
  else
    if r3 = 45 then
      if (sI s 121 21) = 128 then
        bu (dm186 (sI s 121 26) s) fun s15 =>
        some s15
      else
        bv (dm187 10 s) fun r19 s18 =>
        bu (dm188 10 r19 s18) fun s22 =>
        nx (wI s22 121 35 0) fun s23 =>
        nx (wI s23 121 26 ((sI s23 121 26) + 1)) fun s26 =>
        some s26
    else
      if r3 = 40 then
        if (sI s 121 33) = 32 then
          bu (dm186 (sI s 121 26) s) fun s33 =>
          some s33
        else
          bu (dm188 100 (-1) s) fun s36 =>
          nx (wI s36 121 33 ((sI s36 121 33) + 1)) fun s37 =>
          nx (wI s37 121 35 0) fun s40 =>
          nx (wI s40 121 26 ((sI s40 121 26) + 1)) fun s43 =>
          some s43
      else
        if r3 = 41 then
          if (sI s 121 35) = 1 then
            bu (dm189 s) fun s50 =>
            some s50
          else
            dm185_88 r3 s
        else
          dm185_88 r3 s
set_option maxRecDepth 100000 in
theorem dt185 {sio : Bool} {tt : Nat} {cc : Nat → Nat → Int32} {d : Nat} (hd : 6 ≤ d) {s : aS} (hl : Ly tt cc s) {o : aS} (h : dm185  s = some o) : Q 2 sio tt cc d 185 0 [some (.ref 121), none] [] s (.inl none, o) := by
  unfold dm185 at h
  obtain ⟨d, rfl⟩ : ∃ e, d = e + 1 := ⟨d - 1, by omega⟩
  refine Q.run zm185 2 (i' := 2) (ls' := [some (.ref 121), none]) (st' := [.ref 121, .ref 121]) rfl ?_
  refine Q.map (A.gf (gI_of zm185 (e := (2, 3, .getfield 138, [9, 26])) rfl) (hl.lt (a := 121) (by decide)) (hl.T (a := 121) (p := (9, 45)) 43 rfl rfl) (by decide) rfl) ?_
  obtain ⟨r3, hc2, h⟩ := bu_so h
  have hq1 : Q 2 sio tt cc d 176 0 [some (.ref 121), some (.int (sI s 121 26))] [] s (.inl (some (.int r3)), s) := dt176 (by omega) hl  hc2
  refine Q.callI (gC_vi zm185 (show zM185.2.2.2.2.2[3]? = some (5, 3, .invokevirtual 113, [0, 176, 1, 9]) from rfl) zm176 (hl.lt (a := 121) (by decide)) (hl.T (a := 121) (p := (9, 45)) 43 rfl rfl) rfl (show aCr 1 121 [.int (sI s 121 26), .ref 121] 2 = some ([some (.ref 121), some (.int (sI s 121 26))], []) from rfl)) hq1 ?_
  refine Q.run zm185 3 (i' := 7) (ls' := [some (.ref 121), some (.int r3)]) (st' := [.int 43, .int r3]) rfl ?_
  by_cases hc4 : r3 = 43
  · rw [if_pos hc4] at h
    refine Q.map (A.bF (gI_of zm185 (e := (12, 3, .if_icmp .ne 21, [18])) rfl) (fun q => of_decide_eq_true q hc4)) ?_
    refine Q.run zm185 2 (i' := 10) (ls' := [some (.ref 121), some (.int r3)]) (st' := [.int 0, .ref 121]) rfl ?_
    obtain ⟨s5, hs6, h⟩ := nx_so h
    refine Q.pf hs6 rfl (gI_of zm185 (e := (17, 3, .putfield 243, [9, 35, 0])) rfl) (hl.lt (a := 121) (by decide)) (by decide) (hl.T (a := 121) (p := (9, 45)) 43 rfl rfl) (by decide) rfl rfl ?_
    have hl7 : Ly tt cc s5 := by rw [hs6]; exact hl.wId (by decide)
    refine Q.run zm185 2 (i' := 13) (ls' := [some (.ref 121), some (.int r3)]) (st' := [.ref 121, .ref 121]) rfl ?_
    refine Q.map (A.gf (gI_of zm185 (e := (22, 3, .getfield 138, [9, 26])) rfl) (hl7.lt (a := 121) (by decide)) (hl7.T (a := 121) (p := (9, 45)) 43 rfl rfl) (by decide) rfl) ?_
    refine Q.run zm185 2 (i' := 16) (ls' := [some (.ref 121), some (.int r3)]) (st' := [.int ((sI s5 121 26) + 1), .ref 121]) rfl ?_
    obtain ⟨s8, hs9, h⟩ := nx_so h
    refine Q.pf hs9 rfl (gI_of zm185 (e := (27, 3, .putfield 138, [9, 26, 0])) rfl) (hl7.lt (a := 121) (by decide)) (by decide) (hl7.T (a := 121) (p := (9, 45)) 43 rfl rfl) (by decide) rfl rfl ?_
    have hl10 : Ly tt cc s8 := by rw [hs9]; exact hl7.wId (by decide)
    refine Q.run zm185 1 (i' := 120) (ls' := [some (.ref 121), some (.int r3)]) (st' := []) rfl ?_
    cases h
    exact Q.ret (A.rv zm185 (show zM185.2.2.2.2.2[120]? = some (233, 1, .return_, []) from rfl) rfl) hl10
  · rw [if_neg hc4] at h
    refine Q.map (A.bT (gI_of zm185 (e := (12, 3, .if_icmp .ne 21, [18])) rfl) (decide_eq_true hc4)) ?_
    refine Q.run zm185 2 (i' := 20) (ls' := [some (.ref 121), some (.int r3)]) (st' := [.int 45, .int r3]) rfl ?_
    by_cases hc11 : r3 = 45
    · rw [if_pos hc11] at h
      refine Q.map (A.bF (gI_of zm185 (e := (36, 3, .if_icmp .ne 52, [46])) rfl) (fun q => of_decide_eq_true q hc11)) ?_
      refine Q.run zm185 1 (i' := 22) (ls' := [some (.ref 121), some (.int r3)]) (st' := [.ref 121]) rfl ?_
      refine Q.map (A.gf (gI_of zm185 (e := (40, 3, .getfield 141, [9, 21])) rfl) (hl.lt (a := 121) (by decide)) (hl.T (a := 121) (p := (9, 45)) 43 rfl rfl) (by decide) rfl) ?_
      refine Q.run zm185 1 (i' := 24) (ls' := [some (.ref 121), some (.int r3)]) (st' := [.int 128, .int (sI s 121 21)]) rfl ?_
      by_cases hc12 : (sI s 121 21) = 128
      · rw [if_pos hc12] at h
        refine Q.map (A.bF (gI_of zm185 (e := (46, 3, .if_icmp .ne 12, [30])) rfl) (fun q => of_decide_eq_true q hc12)) ?_
        refine Q.run zm185 2 (i' := 27) (ls' := [some (.ref 121), some (.int r3)]) (st' := [.ref 121, .ref 121]) rfl ?_
        refine Q.map (A.gf (gI_of zm185 (e := (51, 3, .getfield 138, [9, 26])) rfl) (hl.lt (a := 121) (by decide)) (hl.T (a := 121) (p := (9, 45)) 43 rfl rfl) (by decide) rfl) ?_
        obtain ⟨s15, hc14, h⟩ := bu_so h
        have hq13 : Q 2 sio tt cc d 186 0 [some (.ref 121), some (.int (sI s 121 26))] [] s (.inl none, s15) := dt186 (by omega) hl  hc14
        refine Q.callV (gC_vi zm185 (show zM185.2.2.2.2.2[28]? = some (54, 3, .invokevirtual 164, [0, 186, 1, 9]) from rfl) zm186 (hl.lt (a := 121) (by decide)) (hl.T (a := 121) (p := (9, 45)) 43 rfl rfl) rfl (show aCr 1 121 [.int (sI s 121 26), .ref 121] 2 = some ([some (.ref 121), some (.int (sI s 121 26))], []) from rfl)) hq13 ?_
        cases h
        exact Q.ret (A.rv zm185 (show zM185.2.2.2.2.2[29]? = some (57, 1, .return_, []) from rfl) rfl) hq13.1
      · rw [if_neg hc12] at h
        refine Q.map (A.bT (gI_of zm185 (e := (46, 3, .if_icmp .ne 12, [30])) rfl) (decide_eq_true hc12)) ?_
        refine Q.run zm185 4 (i' := 34) (ls' := [some (.ref 121), some (.int r3)]) (st' := [.int 10, .ref 121, .int 10, .ref 121]) rfl ?_
        obtain ⟨r19, s18, hc17, h⟩ := bv_so h
        have hq16 : Q 2 sio tt cc d 187 0 [some (.ref 121), some (.int 10), none, none] [] s (.inl (some (.int r19)), s18) := dt187 (by omega) hl  hc17
        refine Q.callI (gC_vi zm185 (show zM185.2.2.2.2.2[34]? = some (64, 3, .invokevirtual 167, [0, 187, 1, 9]) from rfl) zm187 (hl.lt (a := 121) (by decide)) (hl.T (a := 121) (p := (9, 45)) 43 rfl rfl) rfl (show aCr 1 121 [.int 10, .ref 121, .int 10, .ref 121] 4 = some ([some (.ref 121), some (.int 10), none, none], [.int 10, .ref 121]) from rfl)) hq16 ?_
        obtain ⟨s22, hc21, h⟩ := bu_so h
        have hq20 : Q 2 sio tt cc d 188 0 [some (.ref 121), some (.int 10), some (.int r19)] [] s18 (.inl none, s22) := dt188 (by omega) hq16.1  hc21
        refine Q.callV (gC_vi zm185 (show zM185.2.2.2.2.2[35]? = some (67, 3, .invokevirtual 240, [0, 188, 2, 9]) from rfl) zm188 (hq16.1.lt (a := 121) (by decide)) (hq16.1.T (a := 121) (p := (9, 45)) 43 rfl rfl) rfl (show aCr 2 121 [.int r19, .int 10, .ref 121] 3 = some ([some (.ref 121), some (.int 10), some (.int r19)], []) from rfl)) hq20 ?_
        refine Q.run zm185 2 (i' := 38) (ls' := [some (.ref 121), some (.int r3)]) (st' := [.int 0, .ref 121]) rfl ?_
        obtain ⟨s23, hs24, h⟩ := nx_so h
        refine Q.pf hs24 rfl (gI_of zm185 (e := (72, 3, .putfield 243, [9, 35, 0])) rfl) (hq20.1.lt (a := 121) (by decide)) (by decide) (hq20.1.T (a := 121) (p := (9, 45)) 43 rfl rfl) (by decide) rfl rfl ?_
        have hl25 : Ly tt cc s23 := by rw [hs24]; exact hq20.1.wId (by decide)
        refine Q.run zm185 2 (i' := 41) (ls' := [some (.ref 121), some (.int r3)]) (st' := [.ref 121, .ref 121]) rfl ?_
        refine Q.map (A.gf (gI_of zm185 (e := (77, 3, .getfield 138, [9, 26])) rfl) (hl25.lt (a := 121) (by decide)) (hl25.T (a := 121) (p := (9, 45)) 43 rfl rfl) (by decide) rfl) ?_
        refine Q.run zm185 2 (i' := 44) (ls' := [some (.ref 121), some (.int r3)]) (st' := [.int ((sI s23 121 26) + 1), .ref 121]) rfl ?_
        obtain ⟨s26, hs27, h⟩ := nx_so h
        refine Q.pf hs27 rfl (gI_of zm185 (e := (82, 3, .putfield 138, [9, 26, 0])) rfl) (hl25.lt (a := 121) (by decide)) (by decide) (hl25.T (a := 121) (p := (9, 45)) 43 rfl rfl) (by decide) rfl rfl ?_
        have hl28 : Ly tt cc s26 := by rw [hs27]; exact hl25.wId (by decide)
        refine Q.run zm185 1 (i' := 120) (ls' := [some (.ref 121), some (.int r3)]) (st' := []) rfl ?_
        cases h
        exact Q.ret (A.rv zm185 (show zM185.2.2.2.2.2[120]? = some (233, 1, .return_, []) from rfl) rfl) hl28
    · rw [if_neg hc11] at h
      refine Q.map (A.bT (gI_of zm185 (e := (36, 3, .if_icmp .ne 52, [46])) rfl) (decide_eq_true hc11)) ?_
      refine Q.run zm185 2 (i' := 48) (ls' := [some (.ref 121), some (.int r3)]) (st' := [.int 40, .int r3]) rfl ?_
      by_cases hc29 : r3 = 40
      · rw [if_pos hc29] at h
        refine Q.map (A.bF (gI_of zm185 (e := (91, 3, .if_icmp .ne 56, [78])) rfl) (fun q => of_decide_eq_true q hc29)) ?_
        refine Q.run zm185 1 (i' := 50) (ls' := [some (.ref 121), some (.int r3)]) (st' := [.ref 121]) rfl ?_
        refine Q.map (A.gf (gI_of zm185 (e := (95, 3, .getfield 237, [9, 33])) rfl) (hl.lt (a := 121) (by decide)) (hl.T (a := 121) (p := (9, 45)) 43 rfl rfl) (by decide) rfl) ?_
        refine Q.run zm185 1 (i' := 52) (ls' := [some (.ref 121), some (.int r3)]) (st' := [.int 32, .int (sI s 121 33)]) rfl ?_
        by_cases hc30 : (sI s 121 33) = 32
        · rw [if_pos hc30] at h
          refine Q.map (A.bF (gI_of zm185 (e := (100, 3, .if_icmp .ne 12, [58])) rfl) (fun q => of_decide_eq_true q hc30)) ?_
          refine Q.run zm185 2 (i' := 55) (ls' := [some (.ref 121), some (.int r3)]) (st' := [.ref 121, .ref 121]) rfl ?_
          refine Q.map (A.gf (gI_of zm185 (e := (105, 3, .getfield 138, [9, 26])) rfl) (hl.lt (a := 121) (by decide)) (hl.T (a := 121) (p := (9, 45)) 43 rfl rfl) (by decide) rfl) ?_
          obtain ⟨s33, hc32, h⟩ := bu_so h
          have hq31 : Q 2 sio tt cc d 186 0 [some (.ref 121), some (.int (sI s 121 26))] [] s (.inl none, s33) := dt186 (by omega) hl  hc32
          refine Q.callV (gC_vi zm185 (show zM185.2.2.2.2.2[56]? = some (108, 3, .invokevirtual 164, [0, 186, 1, 9]) from rfl) zm186 (hl.lt (a := 121) (by decide)) (hl.T (a := 121) (p := (9, 45)) 43 rfl rfl) rfl (show aCr 1 121 [.int (sI s 121 26), .ref 121] 2 = some ([some (.ref 121), some (.int (sI s 121 26))], []) from rfl)) hq31 ?_
          cases h
          exact Q.ret (A.rv zm185 (show zM185.2.2.2.2.2[57]? = some (111, 1, .return_, []) from rfl) rfl) hq31.1
        · rw [if_neg hc30] at h
          refine Q.map (A.bT (gI_of zm185 (e := (100, 3, .if_icmp .ne 12, [58])) rfl) (decide_eq_true hc30)) ?_
          refine Q.run zm185 3 (i' := 61) (ls' := [some (.ref 121), some (.int r3)]) (st' := [.int (-1), .int 100, .ref 121]) rfl ?_
          obtain ⟨s36, hc35, h⟩ := bu_so h
          have hq34 : Q 2 sio tt cc d 188 0 [some (.ref 121), some (.int 100), some (.int (-1))] [] s (.inl none, s36) := dt188 (by omega) hl  hc35
          refine Q.callV (gC_vi zm185 (show zM185.2.2.2.2.2[61]? = some (116, 3, .invokevirtual 240, [0, 188, 2, 9]) from rfl) zm188 (hl.lt (a := 121) (by decide)) (hl.T (a := 121) (p := (9, 45)) 43 rfl rfl) rfl (show aCr 2 121 [.int (-1), .int 100, .ref 121] 3 = some ([some (.ref 121), some (.int 100), some (.int (-1))], []) from rfl)) hq34 ?_
          refine Q.run zm185 2 (i' := 64) (ls' := [some (.ref 121), some (.int r3)]) (st' := [.ref 121, .ref 121]) rfl ?_
          refine Q.map (A.gf (gI_of zm185 (e := (121, 3, .getfield 237, [9, 33])) rfl) (hq34.1.lt (a := 121) (by decide)) (hq34.1.T (a := 121) (p := (9, 45)) 43 rfl rfl) (by decide) rfl) ?_
          refine Q.run zm185 2 (i' := 67) (ls' := [some (.ref 121), some (.int r3)]) (st' := [.int ((sI s36 121 33) + 1), .ref 121]) rfl ?_
          obtain ⟨s37, hs38, h⟩ := nx_so h
          refine Q.pf hs38 rfl (gI_of zm185 (e := (126, 3, .putfield 237, [9, 33, 0])) rfl) (hq34.1.lt (a := 121) (by decide)) (by decide) (hq34.1.T (a := 121) (p := (9, 45)) 43 rfl rfl) (by decide) rfl rfl ?_
          have hl39 : Ly tt cc s37 := by rw [hs38]; exact hq34.1.wId (by decide)
          refine Q.run zm185 2 (i' := 70) (ls' := [some (.ref 121), some (.int r3)]) (st' := [.int 0, .ref 121]) rfl ?_
          obtain ⟨s40, hs41, h⟩ := nx_so h
          refine Q.pf hs41 rfl (gI_of zm185 (e := (131, 3, .putfield 243, [9, 35, 0])) rfl) (hl39.lt (a := 121) (by decide)) (by decide) (hl39.T (a := 121) (p := (9, 45)) 43 rfl rfl) (by decide) rfl rfl ?_
          have hl42 : Ly tt cc s40 := by rw [hs41]; exact hl39.wId (by decide)
          refine Q.run zm185 2 (i' := 73) (ls' := [some (.ref 121), some (.int r3)]) (st' := [.ref 121, .ref 121]) rfl ?_
          refine Q.map (A.gf (gI_of zm185 (e := (136, 3, .getfield 138, [9, 26])) rfl) (hl42.lt (a := 121) (by decide)) (hl42.T (a := 121) (p := (9, 45)) 43 rfl rfl) (by decide) rfl) ?_
          refine Q.run zm185 2 (i' := 76) (ls' := [some (.ref 121), some (.int r3)]) (st' := [.int ((sI s40 121 26) + 1), .ref 121]) rfl ?_
          obtain ⟨s43, hs44, h⟩ := nx_so h
          refine Q.pf hs44 rfl (gI_of zm185 (e := (141, 3, .putfield 138, [9, 26, 0])) rfl) (hl42.lt (a := 121) (by decide)) (by decide) (hl42.T (a := 121) (p := (9, 45)) 43 rfl rfl) (by decide) rfl rfl ?_
          have hl45 : Ly tt cc s43 := by rw [hs44]; exact hl42.wId (by decide)
          refine Q.run zm185 1 (i' := 120) (ls' := [some (.ref 121), some (.int r3)]) (st' := []) rfl ?_
          cases h
          exact Q.ret (A.rv zm185 (show zM185.2.2.2.2.2[120]? = some (233, 1, .return_, []) from rfl) rfl) hl45
      · rw [if_neg hc29] at h
        refine Q.map (A.bT (gI_of zm185 (e := (91, 3, .if_icmp .ne 56, [78])) rfl) (decide_eq_true hc29)) ?_
        refine Q.run zm185 2 (i' := 80) (ls' := [some (.ref 121), some (.int r3)]) (st' := [.int 41, .int r3]) rfl ?_
        by_cases hc46 : r3 = 41
        · rw [if_pos hc46] at h
          refine Q.map (A.bF (gI_of zm185 (e := (150, 3, .if_icmp .ne 18, [88])) rfl) (fun q => of_decide_eq_true q hc46)) ?_
          refine Q.run zm185 1 (i' := 82) (ls' := [some (.ref 121), some (.int r3)]) (st' := [.ref 121]) rfl ?_
          refine Q.map (A.gf (gI_of zm185 (e := (154, 3, .getfield 243, [9, 35])) rfl) (hl.lt (a := 121) (by decide)) (hl.T (a := 121) (p := (9, 45)) 43 rfl rfl) (by decide) rfl) ?_
          refine Q.run zm185 1 (i' := 84) (ls' := [some (.ref 121), some (.int r3)]) (st' := [.int 1, .int (sI s 121 35)]) rfl ?_
          by_cases hc47 : (sI s 121 35) = 1
          · rw [if_pos hc47] at h
            refine Q.map (A.bF (gI_of zm185 (e := (158, 3, .if_icmp .ne 10, [88])) rfl) (fun q => of_decide_eq_true q hc47)) ?_
            refine Q.run zm185 1 (i' := 86) (ls' := [some (.ref 121), some (.int r3)]) (st' := [.ref 121]) rfl ?_
            obtain ⟨s50, hc49, h⟩ := bu_so h
            have hq48 : Q 2 sio tt cc d 189 0 [some (.ref 121), none] [] s (.inl none, s50) := dt189 (by omega) hl  hc49
            refine Q.callV (gC_vi zm185 (show zM185.2.2.2.2.2[86]? = some (162, 3, .invokevirtual 276, [0, 189, 0, 9]) from rfl) zm189 (hl.lt (a := 121) (by decide)) (hl.T (a := 121) (p := (9, 45)) 43 rfl rfl) rfl (show aCr 0 121 [.ref 121] 2 = some ([some (.ref 121), none], []) from rfl)) hq48 ?_
            refine Q.run zm185 1 (i' := 120) (ls' := [some (.ref 121), some (.int r3)]) (st' := []) rfl ?_
            cases h
            exact Q.ret (A.rv zm185 (show zM185.2.2.2.2.2[120]? = some (233, 1, .return_, []) from rfl) rfl) hq48.1
          · rw [if_neg hc47] at h
            refine Q.map (A.bT (gI_of zm185 (e := (158, 3, .if_icmp .ne 10, [88])) rfl) (decide_eq_true hc47)) ?_
            exact dt185_88 hd hl  h
        · rw [if_neg hc46] at h
          refine Q.map (A.bT (gI_of zm185 (e := (150, 3, .if_icmp .ne 18, [88])) rfl) (decide_eq_true hc46)) ?_
          exact dt185_88 hd hl  h
/-! 217 FormulaTreesModel.operator()I -/
set_option maxRecDepth 100000 in
theorem zm217 : zP[217]? = some zM217 := rfl
def dm217 (s : aS) : Option (Int32) :=
  bu (dm176 (sI s 121 26) s) fun r3 =>
  bu (dm176 ((sI s 121 26) + 1) s) fun r6 =>
  if r3 = 38 then
    some 116
  else
    if r3 = 42 then
      some 112
    else
      if r3 = 43 then
        some 114
      else
        if r3 = 45 then
          some 115
        else
          if r3 = 47 then
            some 113
          else
            if r3 = 60 then
              if r6 = 62 then
                some 218
              else
                if r6 = 61 then
                  some 221
                else
                  some 119
            else
              if r3 = 61 then
                some 117
              else
                if r3 = 62 then
                  if r6 = 61 then
                    some 222
                  else
                    some 120
                else
                  if r3 = 94 then
                    some 111
                  else
                    some 0
set_option maxRecDepth 100000 in
theorem dt217 {sio : Bool} {tt : Nat} {cc : Nat → Nat → Int32} {d : Nat} (hd : 1 ≤ d) {s : aS} (hl : Ly tt cc s) {o : Int32} (h : dm217  s = some o) : Q 2 sio tt cc d 217 0 [some (.ref 121), none, none] [] s (.inl (some (.int o)), s) := by
  unfold dm217 at h
  obtain ⟨d, rfl⟩ : ∃ e, d = e + 1 := ⟨d - 1, by omega⟩
  refine Q.run zm217 2 (i' := 2) (ls' := [some (.ref 121), none, none]) (st' := [.ref 121, .ref 121]) rfl ?_
  refine Q.map (A.gf (gI_of zm217 (e := (2, 3, .getfield 138, [9, 26])) rfl) (hl.lt (a := 121) (by decide)) (hl.T (a := 121) (p := (9, 45)) 43 rfl rfl) (by decide) rfl) ?_
  obtain ⟨r3, hc2, h⟩ := bu_so h
  have hq1 : Q 2 sio tt cc d 176 0 [some (.ref 121), some (.int (sI s 121 26))] [] s (.inl (some (.int r3)), s) := dt176 (by omega) hl  hc2
  refine Q.callI (gC_vi zm217 (show zM217.2.2.2.2.2[3]? = some (5, 3, .invokevirtual 113, [0, 176, 1, 9]) from rfl) zm176 (hl.lt (a := 121) (by decide)) (hl.T (a := 121) (p := (9, 45)) 43 rfl rfl) rfl (show aCr 1 121 [.int (sI s 121 26), .ref 121] 2 = some ([some (.ref 121), some (.int (sI s 121 26))], []) from rfl)) hq1 ?_
  refine Q.run zm217 3 (i' := 7) (ls' := [some (.ref 121), some (.int r3), none]) (st' := [.ref 121, .ref 121]) rfl ?_
  refine Q.map (A.gf (gI_of zm217 (e := (11, 3, .getfield 138, [9, 26])) rfl) (hl.lt (a := 121) (by decide)) (hl.T (a := 121) (p := (9, 45)) 43 rfl rfl) (by decide) rfl) ?_
  refine Q.run zm217 2 (i' := 10) (ls' := [some (.ref 121), some (.int r3), none]) (st' := [.int ((sI s 121 26) + 1), .ref 121]) rfl ?_
  obtain ⟨r6, hc5, h⟩ := bu_so h
  have hq4 : Q 2 sio tt cc d 176 0 [some (.ref 121), some (.int ((sI s 121 26) + 1))] [] s (.inl (some (.int r6)), s) := dt176 (by omega) hl  hc5
  refine Q.callI (gC_vi zm217 (show zM217.2.2.2.2.2[10]? = some (16, 3, .invokevirtual 113, [0, 176, 1, 9]) from rfl) zm176 (hl.lt (a := 121) (by decide)) (hl.T (a := 121) (p := (9, 45)) 43 rfl rfl) rfl (show aCr 1 121 [.int ((sI s 121 26) + 1), .ref 121] 2 = some ([some (.ref 121), some (.int ((sI s 121 26) + 1))], []) from rfl)) hq4 ?_
  refine Q.run zm217 2 (i' := 13) (ls' := [some (.ref 121), some (.int r3), some (.int r6)]) (st' := [.int r3]) rfl ?_
  by_cases hc7 : r3 = 38
  · rw [if_pos hc7] at h
    refine Q.map (A.lk (gI_of zm217 (e := (21, 83, .lookupswitch 146 #[(38, 98), (42, 86), (43, 92), (45, 95), (47, 89), (60, 104), (61, 101), (62, 131), (94, 83)], [47, 24, 16, 20, 22, 18, 28, 26, 40, 14])) rfl) (t := 24) (by rw [hc7] <;> decide)) ?_
    refine Q.run zm217 1 (i' := 25) (ls' := [some (.ref 121), some (.int r3), some (.int r6)]) (st' := [.int 116]) rfl ?_
    cases h
    exact Q.ret (A.ri zm217 (show zM217.2.2.2.2.2[25]? = some (121, 1, .ireturn, []) from rfl) rfl rfl) hl
  · rw [if_neg hc7] at h
    by_cases hc8 : r3 = 42
    · rw [if_pos hc8] at h
      refine Q.map (A.lk (gI_of zm217 (e := (21, 83, .lookupswitch 146 #[(38, 98), (42, 86), (43, 92), (45, 95), (47, 89), (60, 104), (61, 101), (62, 131), (94, 83)], [47, 24, 16, 20, 22, 18, 28, 26, 40, 14])) rfl) (t := 16) (by rw [hc8] <;> decide)) ?_
      refine Q.run zm217 1 (i' := 17) (ls' := [some (.ref 121), some (.int r3), some (.int r6)]) (st' := [.int 112]) rfl ?_
      cases h
      exact Q.ret (A.ri zm217 (show zM217.2.2.2.2.2[17]? = some (109, 1, .ireturn, []) from rfl) rfl rfl) hl
    · rw [if_neg hc8] at h
      by_cases hc9 : r3 = 43
      · rw [if_pos hc9] at h
        refine Q.map (A.lk (gI_of zm217 (e := (21, 83, .lookupswitch 146 #[(38, 98), (42, 86), (43, 92), (45, 95), (47, 89), (60, 104), (61, 101), (62, 131), (94, 83)], [47, 24, 16, 20, 22, 18, 28, 26, 40, 14])) rfl) (t := 20) (by rw [hc9] <;> decide)) ?_
        refine Q.run zm217 1 (i' := 21) (ls' := [some (.ref 121), some (.int r3), some (.int r6)]) (st' := [.int 114]) rfl ?_
        cases h
        exact Q.ret (A.ri zm217 (show zM217.2.2.2.2.2[21]? = some (115, 1, .ireturn, []) from rfl) rfl rfl) hl
      · rw [if_neg hc9] at h
        by_cases hc10 : r3 = 45
        · rw [if_pos hc10] at h
          refine Q.map (A.lk (gI_of zm217 (e := (21, 83, .lookupswitch 146 #[(38, 98), (42, 86), (43, 92), (45, 95), (47, 89), (60, 104), (61, 101), (62, 131), (94, 83)], [47, 24, 16, 20, 22, 18, 28, 26, 40, 14])) rfl) (t := 22) (by rw [hc10] <;> decide)) ?_
          refine Q.run zm217 1 (i' := 23) (ls' := [some (.ref 121), some (.int r3), some (.int r6)]) (st' := [.int 115]) rfl ?_
          cases h
          exact Q.ret (A.ri zm217 (show zM217.2.2.2.2.2[23]? = some (118, 1, .ireturn, []) from rfl) rfl rfl) hl
        · rw [if_neg hc10] at h
          by_cases hc11 : r3 = 47
          · rw [if_pos hc11] at h
            refine Q.map (A.lk (gI_of zm217 (e := (21, 83, .lookupswitch 146 #[(38, 98), (42, 86), (43, 92), (45, 95), (47, 89), (60, 104), (61, 101), (62, 131), (94, 83)], [47, 24, 16, 20, 22, 18, 28, 26, 40, 14])) rfl) (t := 18) (by rw [hc11] <;> decide)) ?_
            refine Q.run zm217 1 (i' := 19) (ls' := [some (.ref 121), some (.int r3), some (.int r6)]) (st' := [.int 113]) rfl ?_
            cases h
            exact Q.ret (A.ri zm217 (show zM217.2.2.2.2.2[19]? = some (112, 1, .ireturn, []) from rfl) rfl rfl) hl
          · rw [if_neg hc11] at h
            by_cases hc12 : r3 = 60
            · rw [if_pos hc12] at h
              refine Q.map (A.lk (gI_of zm217 (e := (21, 83, .lookupswitch 146 #[(38, 98), (42, 86), (43, 92), (45, 95), (47, 89), (60, 104), (61, 101), (62, 131), (94, 83)], [47, 24, 16, 20, 22, 18, 28, 26, 40, 14])) rfl) (t := 28) (by rw [hc12] <;> decide)) ?_
              refine Q.run zm217 2 (i' := 30) (ls' := [some (.ref 121), some (.int r3), some (.int r6)]) (st' := [.int 62, .int r6]) rfl ?_
              by_cases hc13 : r6 = 62
              · rw [if_pos hc13] at h
                refine Q.map (A.bF (gI_of zm217 (e := (128, 3, .if_icmp .ne 9, [33])) rfl) (fun q => of_decide_eq_true q hc13)) ?_
                refine Q.run zm217 2 (i' := 39) (ls' := [some (.ref 121), some (.int r3), some (.int r6)]) (st' := [.int 218]) rfl ?_
                cases h
                exact Q.ret (A.ri zm217 (show zM217.2.2.2.2.2[39]? = some (151, 1, .ireturn, []) from rfl) rfl rfl) hl
              · rw [if_neg hc13] at h
                refine Q.map (A.bT (gI_of zm217 (e := (128, 3, .if_icmp .ne 9, [33])) rfl) (decide_eq_true hc13)) ?_
                refine Q.run zm217 2 (i' := 35) (ls' := [some (.ref 121), some (.int r3), some (.int r6)]) (st' := [.int 61, .int r6]) rfl ?_
                by_cases hc14 : r6 = 61
                · rw [if_pos hc14] at h
                  refine Q.map (A.bF (gI_of zm217 (e := (140, 3, .if_icmp .ne 9, [38])) rfl) (fun q => of_decide_eq_true q hc14)) ?_
                  refine Q.run zm217 2 (i' := 39) (ls' := [some (.ref 121), some (.int r3), some (.int r6)]) (st' := [.int 221]) rfl ?_
                  cases h
                  exact Q.ret (A.ri zm217 (show zM217.2.2.2.2.2[39]? = some (151, 1, .ireturn, []) from rfl) rfl rfl) hl
                · rw [if_neg hc14] at h
                  refine Q.map (A.bT (gI_of zm217 (e := (140, 3, .if_icmp .ne 9, [38])) rfl) (decide_eq_true hc14)) ?_
                  refine Q.run zm217 1 (i' := 39) (ls' := [some (.ref 121), some (.int r3), some (.int r6)]) (st' := [.int 119]) rfl ?_
                  cases h
                  exact Q.ret (A.ri zm217 (show zM217.2.2.2.2.2[39]? = some (151, 1, .ireturn, []) from rfl) rfl rfl) hl
            · rw [if_neg hc12] at h
              by_cases hc15 : r3 = 61
              · rw [if_pos hc15] at h
                refine Q.map (A.lk (gI_of zm217 (e := (21, 83, .lookupswitch 146 #[(38, 98), (42, 86), (43, 92), (45, 95), (47, 89), (60, 104), (61, 101), (62, 131), (94, 83)], [47, 24, 16, 20, 22, 18, 28, 26, 40, 14])) rfl) (t := 26) (by rw [hc15] <;> decide)) ?_
                refine Q.run zm217 1 (i' := 27) (ls' := [some (.ref 121), some (.int r3), some (.int r6)]) (st' := [.int 117]) rfl ?_
                cases h
                exact Q.ret (A.ri zm217 (show zM217.2.2.2.2.2[27]? = some (124, 1, .ireturn, []) from rfl) rfl rfl) hl
              · rw [if_neg hc15] at h
                by_cases hc16 : r3 = 62
                · rw [if_pos hc16] at h
                  refine Q.map (A.lk (gI_of zm217 (e := (21, 83, .lookupswitch 146 #[(38, 98), (42, 86), (43, 92), (45, 95), (47, 89), (60, 104), (61, 101), (62, 131), (94, 83)], [47, 24, 16, 20, 22, 18, 28, 26, 40, 14])) rfl) (t := 40) (by rw [hc16] <;> decide)) ?_
                  refine Q.run zm217 2 (i' := 42) (ls' := [some (.ref 121), some (.int r3), some (.int r6)]) (st' := [.int 61, .int r6]) rfl ?_
                  by_cases hc17 : r6 = 61
                  · rw [if_pos hc17] at h
                    refine Q.map (A.bF (gI_of zm217 (e := (155, 3, .if_icmp .ne 9, [45])) rfl) (fun q => of_decide_eq_true q hc17)) ?_
                    refine Q.run zm217 2 (i' := 46) (ls' := [some (.ref 121), some (.int r3), some (.int r6)]) (st' := [.int 222]) rfl ?_
                    cases h
                    exact Q.ret (A.ri zm217 (show zM217.2.2.2.2.2[46]? = some (166, 1, .ireturn, []) from rfl) rfl rfl) hl
                  · rw [if_neg hc17] at h
                    refine Q.map (A.bT (gI_of zm217 (e := (155, 3, .if_icmp .ne 9, [45])) rfl) (decide_eq_true hc17)) ?_
                    refine Q.run zm217 1 (i' := 46) (ls' := [some (.ref 121), some (.int r3), some (.int r6)]) (st' := [.int 120]) rfl ?_
                    cases h
                    exact Q.ret (A.ri zm217 (show zM217.2.2.2.2.2[46]? = some (166, 1, .ireturn, []) from rfl) rfl rfl) hl
                · rw [if_neg hc16] at h
                  by_cases hc18 : r3 = 94
                  · rw [if_pos hc18] at h
                    refine Q.map (A.lk (gI_of zm217 (e := (21, 83, .lookupswitch 146 #[(38, 98), (42, 86), (43, 92), (45, 95), (47, 89), (60, 104), (61, 101), (62, 131), (94, 83)], [47, 24, 16, 20, 22, 18, 28, 26, 40, 14])) rfl) (t := 14) (by rw [hc18] <;> decide)) ?_
                    refine Q.run zm217 1 (i' := 15) (ls' := [some (.ref 121), some (.int r3), some (.int r6)]) (st' := [.int 111]) rfl ?_
                    cases h
                    exact Q.ret (A.ri zm217 (show zM217.2.2.2.2.2[15]? = some (106, 1, .ireturn, []) from rfl) rfl rfl) hl
                  · rw [if_neg hc18] at h
                    refine Q.map (A.lk (gI_of zm217 (e := (21, 83, .lookupswitch 146 #[(38, 98), (42, 86), (43, 92), (45, 95), (47, 89), (60, 104), (61, 101), (62, 131), (94, 83)], [47, 24, 16, 20, 22, 18, 28, 26, 40, 14])) rfl) (t := 47) (by have := (show r3.toInt ≠ 38 ∧ r3.toInt ≠ 42 ∧ r3.toInt ≠ 43 ∧ r3.toInt ≠ 45 ∧ r3.toInt ≠ 47 ∧ r3.toInt ≠ 60 ∧ r3.toInt ≠ 61 ∧ r3.toInt ≠ 62 ∧ r3.toInt ≠ 94 from ⟨i32_ne (n := 38) hc7 (by decide), i32_ne (n := 42) hc8 (by decide), i32_ne (n := 43) hc9 (by decide), i32_ne (n := 45) hc10 (by decide), i32_ne (n := 47) hc11 (by decide), i32_ne (n := 60) hc12 (by decide), i32_ne (n := 61) hc15 (by decide), i32_ne (n := 62) hc16 (by decide), i32_ne (n := 94) hc18 (by decide)⟩); simp [xlk, this])) ?_
                    refine Q.run zm217 1 (i' := 48) (ls' := [some (.ref 121), some (.int r3), some (.int r6)]) (st' := [.int 0]) rfl ?_
                    cases h
                    exact Q.ret (A.ri zm217 (show zM217.2.2.2.2.2[48]? = some (168, 1, .ireturn, []) from rfl) rfl rfl) hl
/-! 219 FormulaTreesModel.sort(I)V -/
set_option maxRecDepth 100000 in
theorem zm219 : zP[219]? = some zM219 := rfl
def dm219_55 (x1 : Int32) (s : aS) : Option (aS) :=
  if aB x1 1152 then
    if aB x1 1152 then
      if (sI s 132 (jN x1)) ≤ (sI s 134 (jN x1)) then
        some s
      else
        if aB x1 1152 then
          if aB x1 1152 then
            if aB x1 1152 then
              nx (wI s 132 (jN x1) (sI s 134 (jN x1))) fun s7 =>
              if aB x1 1152 then
                nx (wI s7 134 (jN x1) (sI s 132 (jN x1))) fun s11 =>
                if aB x1 1152 then
                  if aB x1 1152 then
                    if aB x1 1152 then
                      if aB x1 1152 then
                        nx (wI s11 135 (jN x1) ((((sI s11 135 (jN x1)) &&& 5) ||| (((sI s11 135 (jN x1)) &&& 2) <<< ((2 : Int32) &&& 31))) ||| (((sI s11 135 (jN x1)) >>> ((2 : Int32) &&& 31)) &&& 2))) fun s18 =>
                        some s18
                      else none
                    else none
                  else none
                else none
              else none
            else none
          else none
        else none
    else none
  else none
set_option maxRecDepth 100000 in
theorem dt219_55 {sio : Bool} {tt : Nat} {cc : Nat → Nat → Int32} {d : Nat} (hd : 0 ≤ d) {x1 : Int32} {g2 : Option Value} {s : aS} (hl : Ly tt cc s) {o : aS} (h : dm219_55  x1 s = some o) : Q 2 sio tt cc d 219 55 [some (.ref 121), some (.int x1), g2] [] s (.inl none, o) := by
  unfold dm219_55 at h
  refine Q.run zm219 1 (i' := 56) (ls' := [some (.ref 121), some (.int x1), g2]) (st' := [.ref 121]) rfl ?_
  refine Q.map (A.gf (gI_of zm219 (e := (79, 3, .getfield 41, [9, 13])) rfl) (hl.lt (a := 121) (by decide)) (hl.T (a := 121) (p := (9, 45)) 43 rfl rfl) (by decide) (hl.R 33 rfl)) ?_
  refine Q.run zm219 1 (i' := 58) (ls' := [some (.ref 121), some (.int x1), g2]) (st' := [.int x1, .ref 132]) rfl ?_
  obtain ⟨hc1, h⟩ := ite_so h
  refine Q.map (A.ia (gI_of zm219 (e := (83, 1, .iaload, [])) rfl) (hl.lt (a := 132) (by decide)) (hl.T (a := 132) (p := (100, 1152)) 54 rfl rfl) hc1) ?_
  refine Q.run zm219 1 (i' := 60) (ls' := [some (.ref 121), some (.int x1), g2]) (st' := [.ref 121, .int (sI s 132 (jN x1))]) rfl ?_
  refine Q.map (A.gf (gI_of zm219 (e := (85, 3, .getfield 47, [9, 15])) rfl) (hl.lt (a := 121) (by decide)) (hl.T (a := 121) (p := (9, 45)) 43 rfl rfl) (by decide) (hl.R 35 rfl)) ?_
  refine Q.run zm219 1 (i' := 62) (ls' := [some (.ref 121), some (.int x1), g2]) (st' := [.int x1, .ref 134, .int (sI s 132 (jN x1))]) rfl ?_
  obtain ⟨hc2, h⟩ := ite_so h
  refine Q.map (A.ia (gI_of zm219 (e := (89, 1, .iaload, [])) rfl) (hl.lt (a := 134) (by decide)) (hl.T (a := 134) (p := (100, 1152)) 56 rfl rfl) hc2) ?_
  by_cases hc3 : (sI s 132 (jN x1)) ≤ (sI s 134 (jN x1))
  · rw [if_pos hc3] at h
    refine Q.map (A.bT (gI_of zm219 (e := (90, 3, .if_icmp .le 65, [110])) rfl) (decide_eq_true hc3)) ?_
    cases h
    exact Q.ret (A.rv zm219 (show zM219.2.2.2.2.2[110]? = some (155, 1, .return_, []) from rfl) rfl) hl
  · rw [if_neg hc3] at h
    refine Q.map (A.bF (gI_of zm219 (e := (90, 3, .if_icmp .le 65, [110])) rfl) (fun q => hc3 (of_decide_eq_true q))) ?_
    refine Q.run zm219 1 (i' := 65) (ls' := [some (.ref 121), some (.int x1), g2]) (st' := [.ref 121]) rfl ?_
    refine Q.map (A.gf (gI_of zm219 (e := (94, 3, .getfield 41, [9, 13])) rfl) (hl.lt (a := 121) (by decide)) (hl.T (a := 121) (p := (9, 45)) 43 rfl rfl) (by decide) (hl.R 33 rfl)) ?_
    refine Q.run zm219 1 (i' := 67) (ls' := [some (.ref 121), some (.int x1), g2]) (st' := [.int x1, .ref 132]) rfl ?_
    obtain ⟨hc4, h⟩ := ite_so h
    refine Q.map (A.ia (gI_of zm219 (e := (98, 1, .iaload, [])) rfl) (hl.lt (a := 132) (by decide)) (hl.T (a := 132) (p := (100, 1152)) 54 rfl rfl) hc4) ?_
    refine Q.run zm219 2 (i' := 70) (ls' := [some (.ref 121), some (.int x1), some (.int (sI s 132 (jN x1)))]) (st' := [.ref 121]) rfl ?_
    refine Q.map (A.gf (gI_of zm219 (e := (101, 3, .getfield 41, [9, 13])) rfl) (hl.lt (a := 121) (by decide)) (hl.T (a := 121) (p := (9, 45)) 43 rfl rfl) (by decide) (hl.R 33 rfl)) ?_
    refine Q.run zm219 2 (i' := 73) (ls' := [some (.ref 121), some (.int x1), some (.int (sI s 132 (jN x1)))]) (st' := [.ref 121, .int x1, .ref 132]) rfl ?_
    refine Q.map (A.gf (gI_of zm219 (e := (106, 3, .getfield 47, [9, 15])) rfl) (hl.lt (a := 121) (by decide)) (hl.T (a := 121) (p := (9, 45)) 43 rfl rfl) (by decide) (hl.R 35 rfl)) ?_
    refine Q.run zm219 1 (i' := 75) (ls' := [some (.ref 121), some (.int x1), some (.int (sI s 132 (jN x1)))]) (st' := [.int x1, .ref 134, .int x1, .ref 132]) rfl ?_
    obtain ⟨hc5, h⟩ := ite_so h
    refine Q.map (A.ia (gI_of zm219 (e := (110, 1, .iaload, [])) rfl) (hl.lt (a := 134) (by decide)) (hl.T (a := 134) (p := (100, 1152)) 56 rfl rfl) hc5) ?_
    obtain ⟨hc6, h⟩ := ite_so h
    obtain ⟨s7, hs8, h⟩ := nx_so h
    refine Q.is hs8 rfl (gI_of zm219 (e := (111, 1, .iastore, [])) rfl) (hl.lt (a := 132) (by decide)) (by decide) (hl.T (a := 132) (p := (100, 1152)) 54 rfl rfl) hc6 ?_
    have hl9 : Ly tt cc s7 := by rw [hs8]; exact hl.wId (by decide)
    refine Q.run zm219 1 (i' := 78) (ls' := [some (.ref 121), some (.int x1), some (.int (sI s 132 (jN x1)))]) (st' := [.ref 121]) rfl ?_
    refine Q.map (A.gf (gI_of zm219 (e := (113, 3, .getfield 47, [9, 15])) rfl) (hl9.lt (a := 121) (by decide)) (hl9.T (a := 121) (p := (9, 45)) 43 rfl rfl) (by decide) (hl9.R 35 rfl)) ?_
    refine Q.run zm219 2 (i' := 81) (ls' := [some (.ref 121), some (.int x1), some (.int (sI s 132 (jN x1)))]) (st' := [.int (sI s 132 (jN x1)), .int x1, .ref 134]) rfl ?_
    obtain ⟨hc10, h⟩ := ite_so h
    obtain ⟨s11, hs12, h⟩ := nx_so h
    refine Q.is hs12 rfl (gI_of zm219 (e := (118, 1, .iastore, [])) rfl) (hl9.lt (a := 134) (by decide)) (by decide) (hl9.T (a := 134) (p := (100, 1152)) 56 rfl rfl) hc10 ?_
    have hl13 : Ly tt cc s11 := by rw [hs12]; exact hl9.wId (by decide)
    refine Q.run zm219 1 (i' := 83) (ls' := [some (.ref 121), some (.int x1), some (.int (sI s 132 (jN x1)))]) (st' := [.ref 121]) rfl ?_
    refine Q.map (A.gf (gI_of zm219 (e := (120, 3, .getfield 50, [9, 16])) rfl) (hl13.lt (a := 121) (by decide)) (hl13.T (a := 121) (p := (9, 45)) 43 rfl rfl) (by decide) (hl13.R 36 rfl)) ?_
    refine Q.run zm219 2 (i' := 86) (ls' := [some (.ref 121), some (.int x1), some (.int (sI s 132 (jN x1)))]) (st' := [.ref 121, .int x1, .ref 135]) rfl ?_
    refine Q.map (A.gf (gI_of zm219 (e := (125, 3, .getfield 50, [9, 16])) rfl) (hl13.lt (a := 121) (by decide)) (hl13.T (a := 121) (p := (9, 45)) 43 rfl rfl) (by decide) (hl13.R 36 rfl)) ?_
    refine Q.run zm219 1 (i' := 88) (ls' := [some (.ref 121), some (.int x1), some (.int (sI s 132 (jN x1)))]) (st' := [.int x1, .ref 135, .int x1, .ref 135]) rfl ?_
    obtain ⟨hc14, h⟩ := ite_so h
    refine Q.map (A.ia (gI_of zm219 (e := (129, 1, .iaload, [])) rfl) (hl13.lt (a := 135) (by decide)) (hl13.T (a := 135) (p := (100, 1152)) 57 rfl rfl) hc14) ?_
    refine Q.run zm219 3 (i' := 92) (ls' := [some (.ref 121), some (.int x1), some (.int (sI s 132 (jN x1)))]) (st' := [.ref 121, .int ((sI s11 135 (jN x1)) &&& 5), .int x1, .ref 135]) rfl ?_
    refine Q.map (A.gf (gI_of zm219 (e := (133, 3, .getfield 50, [9, 16])) rfl) (hl13.lt (a := 121) (by decide)) (hl13.T (a := 121) (p := (9, 45)) 43 rfl rfl) (by decide) (hl13.R 36 rfl)) ?_
    refine Q.run zm219 1 (i' := 94) (ls' := [some (.ref 121), some (.int x1), some (.int (sI s 132 (jN x1)))]) (st' := [.int x1, .ref 135, .int ((sI s11 135 (jN x1)) &&& 5), .int x1, .ref 135]) rfl ?_
    obtain ⟨hc15, h⟩ := ite_so h
    refine Q.map (A.ia (gI_of zm219 (e := (137, 1, .iaload, [])) rfl) (hl13.lt (a := 135) (by decide)) (hl13.T (a := 135) (p := (100, 1152)) 57 rfl rfl) hc15) ?_
    refine Q.run zm219 6 (i' := 101) (ls' := [some (.ref 121), some (.int x1), some (.int (sI s 132 (jN x1)))]) (st' := [.ref 121, .int (((sI s11 135 (jN x1)) &&& 5) ||| (((sI s11 135 (jN x1)) &&& 2) <<< ((2 : Int32) &&& 31))), .int x1, .ref 135]) rfl ?_
    refine Q.map (A.gf (gI_of zm219 (e := (144, 3, .getfield 50, [9, 16])) rfl) (hl13.lt (a := 121) (by decide)) (hl13.T (a := 121) (p := (9, 45)) 43 rfl rfl) (by decide) (hl13.R 36 rfl)) ?_
    refine Q.run zm219 1 (i' := 103) (ls' := [some (.ref 121), some (.int x1), some (.int (sI s 132 (jN x1)))]) (st' := [.int x1, .ref 135, .int (((sI s11 135 (jN x1)) &&& 5) ||| (((sI s11 135 (jN x1)) &&& 2) <<< ((2 : Int32) &&& 31))), .int x1, .ref 135]) rfl ?_
    obtain ⟨hc16, h⟩ := ite_so h
    refine Q.map (A.ia (gI_of zm219 (e := (148, 1, .iaload, [])) rfl) (hl13.lt (a := 135) (by decide)) (hl13.T (a := 135) (p := (100, 1152)) 57 rfl rfl) hc16) ?_
    refine Q.run zm219 5 (i' := 109) (ls' := [some (.ref 121), some (.int x1), some (.int (sI s 132 (jN x1)))]) (st' := [.int ((((sI s11 135 (jN x1)) &&& 5) ||| (((sI s11 135 (jN x1)) &&& 2) <<< ((2 : Int32) &&& 31))) ||| (((sI s11 135 (jN x1)) >>> ((2 : Int32) &&& 31)) &&& 2)), .int x1, .ref 135]) rfl ?_
    obtain ⟨hc17, h⟩ := ite_so h
    obtain ⟨s18, hs19, h⟩ := nx_so h
    refine Q.is hs19 rfl (gI_of zm219 (e := (154, 1, .iastore, [])) rfl) (hl13.lt (a := 135) (by decide)) (by decide) (hl13.T (a := 135) (p := (100, 1152)) 57 rfl rfl) hc17 ?_
    have hl20 : Ly tt cc s18 := by rw [hs19]; exact hl13.wId (by decide)
    cases h
    exact Q.ret (A.rv zm219 (show zM219.2.2.2.2.2[110]? = some (155, 1, .return_, []) from rfl) rfl) hl20
def dm219 (x1 : Int32) (s : aS) : Option (aS) :=
  if aB x1 1152 then
    if aB x1 1152 then
      if (sI s 131 (jN x1)) ≤ (sI s 133 (jN x1)) then
        dm219_55 x1 s
      else
        if aB x1 1152 then
          if aB x1 1152 then
            if aB x1 1152 then
              nx (wI s 131 (jN x1) (sI s 133 (jN x1))) fun s7 =>
              if aB x1 1152 then
                nx (wI s7 133 (jN x1) (sI s 131 (jN x1))) fun s11 =>
                if aB x1 1152 then
                  if aB x1 1152 then
                    if aB x1 1152 then
                      if aB x1 1152 then
                        nx (wI s11 135 (jN x1) ((((sI s11 135 (jN x1)) &&& 10) ||| (((sI s11 135 (jN x1)) &&& 1) <<< ((2 : Int32) &&& 31))) ||| (((sI s11 135 (jN x1)) >>> ((2 : Int32) &&& 31)) &&& 1))) fun s18 =>
                        dm219_55 x1 s18
                      else none
                    else none
                  else none
                else none
              else none
            else none
          else none
        else none
    else none
  else none
set_option maxRecDepth 100000 in
theorem dt219 {sio : Bool} {tt : Nat} {cc : Nat → Nat → Int32} {d : Nat} (hd : 0 ≤ d) {x1 : Int32} {s : aS} (hl : Ly tt cc s) {o : aS} (h : dm219  x1 s = some o) : Q 2 sio tt cc d 219 0 [some (.ref 121), some (.int x1), none] [] s (.inl none, o) := by
  unfold dm219 at h
  refine Q.run zm219 1 (i' := 1) (ls' := [some (.ref 121), some (.int x1), none]) (st' := [.ref 121]) rfl ?_
  refine Q.map (A.gf (gI_of zm219 (e := (1, 3, .getfield 38, [9, 12])) rfl) (hl.lt (a := 121) (by decide)) (hl.T (a := 121) (p := (9, 45)) 43 rfl rfl) (by decide) (hl.R 32 rfl)) ?_
  refine Q.run zm219 1 (i' := 3) (ls' := [some (.ref 121), some (.int x1), none]) (st' := [.int x1, .ref 131]) rfl ?_
  obtain ⟨hc1, h⟩ := ite_so h
  refine Q.map (A.ia (gI_of zm219 (e := (5, 1, .iaload, [])) rfl) (hl.lt (a := 131) (by decide)) (hl.T (a := 131) (p := (100, 1152)) 53 rfl rfl) hc1) ?_
  refine Q.run zm219 1 (i' := 5) (ls' := [some (.ref 121), some (.int x1), none]) (st' := [.ref 121, .int (sI s 131 (jN x1))]) rfl ?_
  refine Q.map (A.gf (gI_of zm219 (e := (7, 3, .getfield 44, [9, 14])) rfl) (hl.lt (a := 121) (by decide)) (hl.T (a := 121) (p := (9, 45)) 43 rfl rfl) (by decide) (hl.R 34 rfl)) ?_
  refine Q.run zm219 1 (i' := 7) (ls' := [some (.ref 121), some (.int x1), none]) (st' := [.int x1, .ref 133, .int (sI s 131 (jN x1))]) rfl ?_
  obtain ⟨hc2, h⟩ := ite_so h
  refine Q.map (A.ia (gI_of zm219 (e := (11, 1, .iaload, [])) rfl) (hl.lt (a := 133) (by decide)) (hl.T (a := 133) (p := (100, 1152)) 55 rfl rfl) hc2) ?_
  by_cases hc3 : (sI s 131 (jN x1)) ≤ (sI s 133 (jN x1))
  · rw [if_pos hc3] at h
    refine Q.map (A.bT (gI_of zm219 (e := (12, 3, .if_icmp .le 66, [55])) rfl) (decide_eq_true hc3)) ?_
    exact dt219_55 hd hl  h
  · rw [if_neg hc3] at h
    refine Q.map (A.bF (gI_of zm219 (e := (12, 3, .if_icmp .le 66, [55])) rfl) (fun q => hc3 (of_decide_eq_true q))) ?_
    refine Q.run zm219 1 (i' := 10) (ls' := [some (.ref 121), some (.int x1), none]) (st' := [.ref 121]) rfl ?_
    refine Q.map (A.gf (gI_of zm219 (e := (16, 3, .getfield 38, [9, 12])) rfl) (hl.lt (a := 121) (by decide)) (hl.T (a := 121) (p := (9, 45)) 43 rfl rfl) (by decide) (hl.R 32 rfl)) ?_
    refine Q.run zm219 1 (i' := 12) (ls' := [some (.ref 121), some (.int x1), none]) (st' := [.int x1, .ref 131]) rfl ?_
    obtain ⟨hc4, h⟩ := ite_so h
    refine Q.map (A.ia (gI_of zm219 (e := (20, 1, .iaload, [])) rfl) (hl.lt (a := 131) (by decide)) (hl.T (a := 131) (p := (100, 1152)) 53 rfl rfl) hc4) ?_
    refine Q.run zm219 2 (i' := 15) (ls' := [some (.ref 121), some (.int x1), some (.int (sI s 131 (jN x1)))]) (st' := [.ref 121]) rfl ?_
    refine Q.map (A.gf (gI_of zm219 (e := (23, 3, .getfield 38, [9, 12])) rfl) (hl.lt (a := 121) (by decide)) (hl.T (a := 121) (p := (9, 45)) 43 rfl rfl) (by decide) (hl.R 32 rfl)) ?_
    refine Q.run zm219 2 (i' := 18) (ls' := [some (.ref 121), some (.int x1), some (.int (sI s 131 (jN x1)))]) (st' := [.ref 121, .int x1, .ref 131]) rfl ?_
    refine Q.map (A.gf (gI_of zm219 (e := (28, 3, .getfield 44, [9, 14])) rfl) (hl.lt (a := 121) (by decide)) (hl.T (a := 121) (p := (9, 45)) 43 rfl rfl) (by decide) (hl.R 34 rfl)) ?_
    refine Q.run zm219 1 (i' := 20) (ls' := [some (.ref 121), some (.int x1), some (.int (sI s 131 (jN x1)))]) (st' := [.int x1, .ref 133, .int x1, .ref 131]) rfl ?_
    obtain ⟨hc5, h⟩ := ite_so h
    refine Q.map (A.ia (gI_of zm219 (e := (32, 1, .iaload, [])) rfl) (hl.lt (a := 133) (by decide)) (hl.T (a := 133) (p := (100, 1152)) 55 rfl rfl) hc5) ?_
    obtain ⟨hc6, h⟩ := ite_so h
    obtain ⟨s7, hs8, h⟩ := nx_so h
    refine Q.is hs8 rfl (gI_of zm219 (e := (33, 1, .iastore, [])) rfl) (hl.lt (a := 131) (by decide)) (by decide) (hl.T (a := 131) (p := (100, 1152)) 53 rfl rfl) hc6 ?_
    have hl9 : Ly tt cc s7 := by rw [hs8]; exact hl.wId (by decide)
    refine Q.run zm219 1 (i' := 23) (ls' := [some (.ref 121), some (.int x1), some (.int (sI s 131 (jN x1)))]) (st' := [.ref 121]) rfl ?_
    refine Q.map (A.gf (gI_of zm219 (e := (35, 3, .getfield 44, [9, 14])) rfl) (hl9.lt (a := 121) (by decide)) (hl9.T (a := 121) (p := (9, 45)) 43 rfl rfl) (by decide) (hl9.R 34 rfl)) ?_
    refine Q.run zm219 2 (i' := 26) (ls' := [some (.ref 121), some (.int x1), some (.int (sI s 131 (jN x1)))]) (st' := [.int (sI s 131 (jN x1)), .int x1, .ref 133]) rfl ?_
    obtain ⟨hc10, h⟩ := ite_so h
    obtain ⟨s11, hs12, h⟩ := nx_so h
    refine Q.is hs12 rfl (gI_of zm219 (e := (40, 1, .iastore, [])) rfl) (hl9.lt (a := 133) (by decide)) (by decide) (hl9.T (a := 133) (p := (100, 1152)) 55 rfl rfl) hc10 ?_
    have hl13 : Ly tt cc s11 := by rw [hs12]; exact hl9.wId (by decide)
    refine Q.run zm219 1 (i' := 28) (ls' := [some (.ref 121), some (.int x1), some (.int (sI s 131 (jN x1)))]) (st' := [.ref 121]) rfl ?_
    refine Q.map (A.gf (gI_of zm219 (e := (42, 3, .getfield 50, [9, 16])) rfl) (hl13.lt (a := 121) (by decide)) (hl13.T (a := 121) (p := (9, 45)) 43 rfl rfl) (by decide) (hl13.R 36 rfl)) ?_
    refine Q.run zm219 2 (i' := 31) (ls' := [some (.ref 121), some (.int x1), some (.int (sI s 131 (jN x1)))]) (st' := [.ref 121, .int x1, .ref 135]) rfl ?_
    refine Q.map (A.gf (gI_of zm219 (e := (47, 3, .getfield 50, [9, 16])) rfl) (hl13.lt (a := 121) (by decide)) (hl13.T (a := 121) (p := (9, 45)) 43 rfl rfl) (by decide) (hl13.R 36 rfl)) ?_
    refine Q.run zm219 1 (i' := 33) (ls' := [some (.ref 121), some (.int x1), some (.int (sI s 131 (jN x1)))]) (st' := [.int x1, .ref 135, .int x1, .ref 135]) rfl ?_
    obtain ⟨hc14, h⟩ := ite_so h
    refine Q.map (A.ia (gI_of zm219 (e := (51, 1, .iaload, [])) rfl) (hl13.lt (a := 135) (by decide)) (hl13.T (a := 135) (p := (100, 1152)) 57 rfl rfl) hc14) ?_
    refine Q.run zm219 3 (i' := 37) (ls' := [some (.ref 121), some (.int x1), some (.int (sI s 131 (jN x1)))]) (st' := [.ref 121, .int ((sI s11 135 (jN x1)) &&& 10), .int x1, .ref 135]) rfl ?_
    refine Q.map (A.gf (gI_of zm219 (e := (56, 3, .getfield 50, [9, 16])) rfl) (hl13.lt (a := 121) (by decide)) (hl13.T (a := 121) (p := (9, 45)) 43 rfl rfl) (by decide) (hl13.R 36 rfl)) ?_
    refine Q.run zm219 1 (i' := 39) (ls' := [some (.ref 121), some (.int x1), some (.int (sI s 131 (jN x1)))]) (st' := [.int x1, .ref 135, .int ((sI s11 135 (jN x1)) &&& 10), .int x1, .ref 135]) rfl ?_
    obtain ⟨hc15, h⟩ := ite_so h
    refine Q.map (A.ia (gI_of zm219 (e := (60, 1, .iaload, [])) rfl) (hl13.lt (a := 135) (by decide)) (hl13.T (a := 135) (p := (100, 1152)) 57 rfl rfl) hc15) ?_
    refine Q.run zm219 6 (i' := 46) (ls' := [some (.ref 121), some (.int x1), some (.int (sI s 131 (jN x1)))]) (st' := [.ref 121, .int (((sI s11 135 (jN x1)) &&& 10) ||| (((sI s11 135 (jN x1)) &&& 1) <<< ((2 : Int32) &&& 31))), .int x1, .ref 135]) rfl ?_
    refine Q.map (A.gf (gI_of zm219 (e := (67, 3, .getfield 50, [9, 16])) rfl) (hl13.lt (a := 121) (by decide)) (hl13.T (a := 121) (p := (9, 45)) 43 rfl rfl) (by decide) (hl13.R 36 rfl)) ?_
    refine Q.run zm219 1 (i' := 48) (ls' := [some (.ref 121), some (.int x1), some (.int (sI s 131 (jN x1)))]) (st' := [.int x1, .ref 135, .int (((sI s11 135 (jN x1)) &&& 10) ||| (((sI s11 135 (jN x1)) &&& 1) <<< ((2 : Int32) &&& 31))), .int x1, .ref 135]) rfl ?_
    obtain ⟨hc16, h⟩ := ite_so h
    refine Q.map (A.ia (gI_of zm219 (e := (71, 1, .iaload, [])) rfl) (hl13.lt (a := 135) (by decide)) (hl13.T (a := 135) (p := (100, 1152)) 57 rfl rfl) hc16) ?_
    refine Q.run zm219 5 (i' := 54) (ls' := [some (.ref 121), some (.int x1), some (.int (sI s 131 (jN x1)))]) (st' := [.int ((((sI s11 135 (jN x1)) &&& 10) ||| (((sI s11 135 (jN x1)) &&& 1) <<< ((2 : Int32) &&& 31))) ||| (((sI s11 135 (jN x1)) >>> ((2 : Int32) &&& 31)) &&& 1)), .int x1, .ref 135]) rfl ?_
    obtain ⟨hc17, h⟩ := ite_so h
    obtain ⟨s18, hs19, h⟩ := nx_so h
    refine Q.is hs19 rfl (gI_of zm219 (e := (77, 1, .iastore, [])) rfl) (hl13.lt (a := 135) (by decide)) (by decide) (hl13.T (a := 135) (p := (100, 1152)) 57 rfl rfl) hc17 ?_
    have hl20 : Ly tt cc s18 := by rw [hs19]; exact hl13.wId (by decide)
    exact dt219_55 hd hl20  h
/-! 218 FormulaTreesModel.readRange()V -/
set_option maxRecDepth 100000 in
theorem zm218 : zP[218]? = some zM218 := rfl
def dm218_11 : Nat → Int32 → aS → Option (aS)
  | 0, _, _ => none
  | n + 1, x1, s =>
    bu (dm176 (sI s 121 26) s) fun r3 =>
    if r3 = 32 then
      nx (wI s 121 26 ((sI s 121 26) + 1)) fun s5 =>
      dm218_11 n x1 s5
    else
      bu (dm207 s) fun s10 =>
      if (sI s10 121 27) = 0 then
        if aB x1 1152 then
          nx (wI s10 128 (jN x1) 5) fun s13 =>
          if aB x1 1152 then
            nx (wI s13 133 (jN x1) (sI s13 121 39)) fun s17 =>
            if aB x1 1152 then
              nx (wI s17 134 (jN x1) (sI s17 121 40)) fun s21 =>
              if aB x1 1152 then
                if aB x1 1152 then
                  nx (wI s21 135 (jN x1) ((sI s21 135 (jN x1)) ||| ((sI s21 121 41) <<< ((2 : Int32) &&& 31)))) fun s26 =>
                  bu (dm219 x1 s26) fun s31 =>
                  nx (wI s31 121 34 (-1)) fun s32 =>
                  some s32
                else none
              else none
            else none
          else none
        else none
      else
        some s10
set_option maxRecDepth 100000 in
theorem dt218_11 {sio : Bool} {tt : Nat} {cc : Nat → Nat → Int32} {d : Nat} (hd : 3 ≤ d) : ∀ (n : Nat) {x1 : Int32} {s : aS} (_ : Ly tt cc s) {o : aS} (_ : dm218_11  n x1 s = some o), Q 2 sio tt cc d 218 11 [some (.ref 121), some (.int x1)] [] s (.inl none, o) := by
  obtain ⟨d, rfl⟩ : ∃ e, d = e + 1 := ⟨d - 1, by omega⟩
  intro n
  induction n with
  | zero => intro x1 s hl o h; rw [dm218_11] at h; cases h
  | succ n ih =>
    intro x1 s hl o h
    rw [dm218_11] at h
    refine Q.run zm218 2 (i' := 13) (ls' := [some (.ref 121), some (.int x1)]) (st' := [.ref 121, .ref 121]) rfl ?_
    refine Q.map (A.gf (gI_of zm218 (e := (21, 3, .getfield 138, [9, 26])) rfl) (hl.lt (a := 121) (by decide)) (hl.T (a := 121) (p := (9, 45)) 43 rfl rfl) (by decide) rfl) ?_
    obtain ⟨r3, hc2, h⟩ := bu_so h
    have hq1 : Q 2 sio tt cc d 176 0 [some (.ref 121), some (.int (sI s 121 26))] [] s (.inl (some (.int r3)), s) := dt176 (by omega) hl  hc2
    refine Q.callI (gC_vi zm218 (show zM218.2.2.2.2.2[14]? = some (24, 3, .invokevirtual 113, [0, 176, 1, 9]) from rfl) zm176 (hl.lt (a := 121) (by decide)) (hl.T (a := 121) (p := (9, 45)) 43 rfl rfl) rfl (show aCr 1 121 [.int (sI s 121 26), .ref 121] 2 = some ([some (.ref 121), some (.int (sI s 121 26))], []) from rfl)) hq1 ?_
    refine Q.run zm218 1 (i' := 16) (ls' := [some (.ref 121), some (.int x1)]) (st' := [.int 32, .int r3]) rfl ?_
    by_cases hc4 : r3 = 32
    · rw [if_pos hc4] at h
      refine Q.map (A.bF (gI_of zm218 (e := (29, 3, .if_icmp .ne 16, [24])) rfl) (fun q => of_decide_eq_true q hc4)) ?_
      refine Q.run zm218 2 (i' := 19) (ls' := [some (.ref 121), some (.int x1)]) (st' := [.ref 121, .ref 121]) rfl ?_
      refine Q.map (A.gf (gI_of zm218 (e := (34, 3, .getfield 138, [9, 26])) rfl) (hl.lt (a := 121) (by decide)) (hl.T (a := 121) (p := (9, 45)) 43 rfl rfl) (by decide) rfl) ?_
      refine Q.run zm218 2 (i' := 22) (ls' := [some (.ref 121), some (.int x1)]) (st' := [.int ((sI s 121 26) + 1), .ref 121]) rfl ?_
      obtain ⟨s5, hs6, h⟩ := nx_so h
      refine Q.pf hs6 rfl (gI_of zm218 (e := (39, 3, .putfield 138, [9, 26, 0])) rfl) (hl.lt (a := 121) (by decide)) (by decide) (hl.T (a := 121) (p := (9, 45)) 43 rfl rfl) (by decide) rfl rfl ?_
      have hl7 : Ly tt cc s5 := by rw [hs6]; exact hl.wId (by decide)
      refine Q.run zm218 1 (i' := 11) (ls' := [some (.ref 121), some (.int x1)]) (st' := []) rfl ?_
      exact ih hl7  h
    · rw [if_neg hc4] at h
      refine Q.map (A.bT (gI_of zm218 (e := (29, 3, .if_icmp .ne 16, [24])) rfl) (decide_eq_true hc4)) ?_
      refine Q.run zm218 1 (i' := 25) (ls' := [some (.ref 121), some (.int x1)]) (st' := [.ref 121]) rfl ?_
      obtain ⟨s10, hc9, h⟩ := bu_so h
      have hq8 : Q 2 sio tt cc d 207 0 [some (.ref 121), none] [] s (.inl none, s10) := dt207 (by omega) hl  hc9
      refine Q.callV (gC_vi zm218 (show zM218.2.2.2.2.2[25]? = some (46, 3, .invokevirtual 216, [0, 207, 0, 9]) from rfl) zm207 (hl.lt (a := 121) (by decide)) (hl.T (a := 121) (p := (9, 45)) 43 rfl rfl) rfl (show aCr 0 121 [.ref 121] 2 = some ([some (.ref 121), none], []) from rfl)) hq8 ?_
      refine Q.run zm218 1 (i' := 27) (ls' := [some (.ref 121), some (.int x1)]) (st' := [.ref 121]) rfl ?_
      refine Q.map (A.gf (gI_of zm218 (e := (50, 3, .getfield 134, [9, 27])) rfl) (hq8.1.lt (a := 121) (by decide)) (hq8.1.T (a := 121) (p := (9, 45)) 43 rfl rfl) (by decide) rfl) ?_
      by_cases hc11 : (sI s10 121 27) = 0
      · rw [if_pos hc11] at h
        refine Q.map (A.zT (gI_of zm218 (e := (53, 3, .ifCond .eq 4, [30])) rfl) (decide_eq_true hc11)) ?_
        refine Q.run zm218 1 (i' := 31) (ls' := [some (.ref 121), some (.int x1)]) (st' := [.ref 121]) rfl ?_
        refine Q.map (A.gf (gI_of zm218 (e := (58, 3, .getfield 29, [9, 9])) rfl) (hq8.1.lt (a := 121) (by decide)) (hq8.1.T (a := 121) (p := (9, 45)) 43 rfl rfl) (by decide) (hq8.1.R 29 rfl)) ?_
        refine Q.run zm218 2 (i' := 34) (ls' := [some (.ref 121), some (.int x1)]) (st' := [.int 5, .int x1, .ref 128]) rfl ?_
        obtain ⟨hc12, h⟩ := ite_so h
        obtain ⟨s13, hs14, h⟩ := nx_so h
        refine Q.is hs14 rfl (gI_of zm218 (e := (63, 1, .iastore, [])) rfl) (hq8.1.lt (a := 128) (by decide)) (by decide) (hq8.1.T (a := 128) (p := (100, 1152)) 50 rfl rfl) hc12 ?_
        have hl15 : Ly tt cc s13 := by rw [hs14]; exact hq8.1.wId (by decide)
        refine Q.run zm218 1 (i' := 36) (ls' := [some (.ref 121), some (.int x1)]) (st' := [.ref 121]) rfl ?_
        refine Q.map (A.gf (gI_of zm218 (e := (65, 3, .getfield 44, [9, 14])) rfl) (hl15.lt (a := 121) (by decide)) (hl15.T (a := 121) (p := (9, 45)) 43 rfl rfl) (by decide) (hl15.R 34 rfl)) ?_
        refine Q.run zm218 2 (i' := 39) (ls' := [some (.ref 121), some (.int x1)]) (st' := [.ref 121, .int x1, .ref 133]) rfl ?_
        refine Q.map (A.gf (gI_of zm218 (e := (70, 3, .getfield 206, [9, 39])) rfl) (hl15.lt (a := 121) (by decide)) (hl15.T (a := 121) (p := (9, 45)) 43 rfl rfl) (by decide) rfl) ?_
        obtain ⟨hc16, h⟩ := ite_so h
        obtain ⟨s17, hs18, h⟩ := nx_so h
        refine Q.is hs18 rfl (gI_of zm218 (e := (73, 1, .iastore, [])) rfl) (hl15.lt (a := 133) (by decide)) (by decide) (hl15.T (a := 133) (p := (100, 1152)) 55 rfl rfl) hc16 ?_
        have hl19 : Ly tt cc s17 := by rw [hs18]; exact hl15.wId (by decide)
        refine Q.run zm218 1 (i' := 42) (ls' := [some (.ref 121), some (.int x1)]) (st' := [.ref 121]) rfl ?_
        refine Q.map (A.gf (gI_of zm218 (e := (75, 3, .getfield 47, [9, 15])) rfl) (hl19.lt (a := 121) (by decide)) (hl19.T (a := 121) (p := (9, 45)) 43 rfl rfl) (by decide) (hl19.R 35 rfl)) ?_
        refine Q.run zm218 2 (i' := 45) (ls' := [some (.ref 121), some (.int x1)]) (st' := [.ref 121, .int x1, .ref 134]) rfl ?_
        refine Q.map (A.gf (gI_of zm218 (e := (80, 3, .getfield 203, [9, 40])) rfl) (hl19.lt (a := 121) (by decide)) (hl19.T (a := 121) (p := (9, 45)) 43 rfl rfl) (by decide) rfl) ?_
        obtain ⟨hc20, h⟩ := ite_so h
        obtain ⟨s21, hs22, h⟩ := nx_so h
        refine Q.is hs22 rfl (gI_of zm218 (e := (83, 1, .iastore, [])) rfl) (hl19.lt (a := 134) (by decide)) (by decide) (hl19.T (a := 134) (p := (100, 1152)) 56 rfl rfl) hc20 ?_
        have hl23 : Ly tt cc s21 := by rw [hs22]; exact hl19.wId (by decide)
        refine Q.run zm218 1 (i' := 48) (ls' := [some (.ref 121), some (.int x1)]) (st' := [.ref 121]) rfl ?_
        refine Q.map (A.gf (gI_of zm218 (e := (85, 3, .getfield 50, [9, 16])) rfl) (hl23.lt (a := 121) (by decide)) (hl23.T (a := 121) (p := (9, 45)) 43 rfl rfl) (by decide) (hl23.R 36 rfl)) ?_
        refine Q.run zm218 2 (i' := 51) (ls' := [some (.ref 121), some (.int x1)]) (st' := [.ref 121, .int x1, .ref 135]) rfl ?_
        refine Q.map (A.gf (gI_of zm218 (e := (90, 3, .getfield 50, [9, 16])) rfl) (hl23.lt (a := 121) (by decide)) (hl23.T (a := 121) (p := (9, 45)) 43 rfl rfl) (by decide) (hl23.R 36 rfl)) ?_
        refine Q.run zm218 1 (i' := 53) (ls' := [some (.ref 121), some (.int x1)]) (st' := [.int x1, .ref 135, .int x1, .ref 135]) rfl ?_
        obtain ⟨hc24, h⟩ := ite_so h
        refine Q.map (A.ia (gI_of zm218 (e := (94, 1, .iaload, [])) rfl) (hl23.lt (a := 135) (by decide)) (hl23.T (a := 135) (p := (100, 1152)) 57 rfl rfl) hc24) ?_
        refine Q.run zm218 1 (i' := 55) (ls' := [some (.ref 121), some (.int x1)]) (st' := [.ref 121, .int (sI s21 135 (jN x1)), .int x1, .ref 135]) rfl ?_
        refine Q.map (A.gf (gI_of zm218 (e := (96, 3, .getfield 200, [9, 41])) rfl) (hl23.lt (a := 121) (by decide)) (hl23.T (a := 121) (p := (9, 45)) 43 rfl rfl) (by decide) rfl) ?_
        refine Q.run zm218 3 (i' := 59) (ls' := [some (.ref 121), some (.int x1)]) (st' := [.int ((sI s21 135 (jN x1)) ||| ((sI s21 121 41) <<< ((2 : Int32) &&& 31))), .int x1, .ref 135]) rfl ?_
        obtain ⟨hc25, h⟩ := ite_so h
        obtain ⟨s26, hs27, h⟩ := nx_so h
        refine Q.is hs27 rfl (gI_of zm218 (e := (102, 1, .iastore, [])) rfl) (hl23.lt (a := 135) (by decide)) (by decide) (hl23.T (a := 135) (p := (100, 1152)) 57 rfl rfl) hc25 ?_
        have hl28 : Ly tt cc s26 := by rw [hs27]; exact hl23.wId (by decide)
        refine Q.run zm218 2 (i' := 62) (ls' := [some (.ref 121), some (.int x1)]) (st' := [.int x1, .ref 121]) rfl ?_
        obtain ⟨s31, hc30, h⟩ := bu_so h
        have hq29 : Q 2 sio tt cc d 219 0 [some (.ref 121), some (.int x1), none] [] s26 (.inl none, s31) := dt219 (by omega) hl28  hc30
        refine Q.callV (gC_vi zm218 (show zM218.2.2.2.2.2[62]? = some (105, 3, .invokevirtual 219, [0, 219, 1, 9]) from rfl) zm219 (hl28.lt (a := 121) (by decide)) (hl28.T (a := 121) (p := (9, 45)) 43 rfl rfl) rfl (show aCr 1 121 [.int x1, .ref 121] 3 = some ([some (.ref 121), some (.int x1), none], []) from rfl)) hq29 ?_
        refine Q.run zm218 2 (i' := 65) (ls' := [some (.ref 121), some (.int x1)]) (st' := [.int (-1), .ref 121]) rfl ?_
        obtain ⟨s32, hs33, h⟩ := nx_so h
        refine Q.pf hs33 rfl (gI_of zm218 (e := (110, 3, .putfield 213, [9, 34, 0])) rfl) (hq29.1.lt (a := 121) (by decide)) (by decide) (hq29.1.T (a := 121) (p := (9, 45)) 43 rfl rfl) (by decide) rfl rfl ?_
        have hl34 : Ly tt cc s32 := by rw [hs33]; exact hq29.1.wId (by decide)
        cases h
        exact Q.ret (A.rv zm218 (show zM218.2.2.2.2.2[66]? = some (113, 1, .return_, []) from rfl) rfl) hl34
      · rw [if_neg hc11] at h
        refine Q.map (A.zF (gI_of zm218 (e := (53, 3, .ifCond .eq 4, [30])) rfl) (fun q => hc11 (of_decide_eq_true q))) ?_
        cases h
        exact Q.ret (A.rv zm218 (show zM218.2.2.2.2.2[29]? = some (56, 1, .return_, []) from rfl) rfl) hq8.1
def dm218 (s : aS) : Option (aS) :=
  nx (wI s 121 26 ((sI s 121 26) + 1)) fun s1 =>
  dm218_11 5000 (1024 + (sI s 121 34)) s1
set_option maxRecDepth 100000 in
theorem dt218 {sio : Bool} {tt : Nat} {cc : Nat → Nat → Int32} {d : Nat} (hd : 3 ≤ d) {s : aS} (hl : Ly tt cc s) {o : aS} (h : dm218  s = some o) : Q 2 sio tt cc d 218 0 [some (.ref 121), none] [] s (.inl none, o) := by
  unfold dm218 at h
  obtain ⟨d, rfl⟩ : ∃ e, d = e + 1 := ⟨d - 1, by omega⟩
  refine Q.run zm218 2 (i' := 2) (ls' := [some (.ref 121), none]) (st' := [.ref 121, .int 1024]) rfl ?_
  refine Q.map (A.gf (gI_of zm218 (e := (4, 3, .getfield 213, [9, 34])) rfl) (hl.lt (a := 121) (by decide)) (hl.T (a := 121) (p := (9, 45)) 43 rfl rfl) (by decide) rfl) ?_
  refine Q.run zm218 4 (i' := 7) (ls' := [some (.ref 121), some (.int (1024 + (sI s 121 34)))]) (st' := [.ref 121, .ref 121]) rfl ?_
  refine Q.map (A.gf (gI_of zm218 (e := (11, 3, .getfield 138, [9, 26])) rfl) (hl.lt (a := 121) (by decide)) (hl.T (a := 121) (p := (9, 45)) 43 rfl rfl) (by decide) rfl) ?_
  refine Q.run zm218 2 (i' := 10) (ls' := [some (.ref 121), some (.int (1024 + (sI s 121 34)))]) (st' := [.int ((sI s 121 26) + 1), .ref 121]) rfl ?_
  obtain ⟨s1, hs2, h⟩ := nx_so h
  refine Q.pf hs2 rfl (gI_of zm218 (e := (16, 3, .putfield 138, [9, 26, 0])) rfl) (hl.lt (a := 121) (by decide)) (by decide) (hl.T (a := 121) (p := (9, 45)) 43 rfl rfl) (by decide) rfl rfl ?_
  have hl3 : Ly tt cc s1 := by rw [hs2]; exact hl.wId (by decide)
  exact dt218_11 hd _ hl3  h
/-! 220 FormulaTreesModel.innermost()I -/
set_option maxRecDepth 100000 in
theorem zm220 : zP[220]? = some zM220 := rfl
def dm220_21 (x1 : Int32) (s : aS) : Option (Int32) :=
  if 0 ≤ x1 then
    if aB x1 300 then
      some (sI s 145 (jN x1))
    else none
  else
    some (-1)
set_option maxRecDepth 100000 in
theorem dt220_21 {sio : Bool} {tt : Nat} {cc : Nat → Nat → Int32} {d : Nat} (hd : 0 ≤ d) {x1 : Int32} {s : aS} (hl : Ly tt cc s) {o : Int32} (h : dm220_21  x1 s = some o) : Q 2 sio tt cc d 220 21 [some (.ref 121), some (.int x1)] [] s (.inl (some (.int o)), s) := by
  unfold dm220_21 at h
  refine Q.run zm220 1 (i' := 22) (ls' := [some (.ref 121), some (.int x1)]) (st' := [.int x1]) rfl ?_
  by_cases hc1 : 0 ≤ x1
  · rw [if_pos hc1] at h
    refine Q.map (A.zT (gI_of zm220 (e := (40, 3, .ifCond .ge 7, [25])) rfl) (decide_eq_true hc1)) ?_
    refine Q.run zm220 1 (i' := 26) (ls' := [some (.ref 121), some (.int x1)]) (st' := [.ref 121]) rfl ?_
    refine Q.map (A.gf (gI_of zm220 (e := (48, 3, .getfield 80, [9, 30])) rfl) (hl.lt (a := 121) (by decide)) (hl.T (a := 121) (p := (9, 45)) 43 rfl rfl) (by decide) (hl.R 46 rfl)) ?_
    refine Q.run zm220 1 (i' := 28) (ls' := [some (.ref 121), some (.int x1)]) (st' := [.int x1, .ref 145]) rfl ?_
    obtain ⟨hc2, h⟩ := ite_so h
    refine Q.map (A.ia (gI_of zm220 (e := (52, 1, .iaload, [])) rfl) (hl.lt (a := 145) (by decide)) (hl.T (a := 145) (p := (100, 300)) 67 rfl rfl) hc2) ?_
    cases h
    exact Q.ret (A.ri zm220 (show zM220.2.2.2.2.2[29]? = some (53, 1, .ireturn, []) from rfl) rfl rfl) hl
  · rw [if_neg hc1] at h
    refine Q.map (A.zF (gI_of zm220 (e := (40, 3, .ifCond .ge 7, [25])) rfl) (fun q => hc1 (of_decide_eq_true q))) ?_
    refine Q.run zm220 2 (i' := 29) (ls' := [some (.ref 121), some (.int x1)]) (st' := [.int (-1)]) rfl ?_
    cases h
    exact Q.ret (A.ri zm220 (show zM220.2.2.2.2.2[29]? = some (53, 1, .ireturn, []) from rfl) rfl rfl) hl
def dm220_5 : Nat → Int32 → aS → Option (Int32)
  | 0, _, _ => none
  | n + 1, x1, s =>
    if x1 < 0 then
      dm220_21 x1 s
    else
      if aB x1 300 then
        if (sI s 145 (jN x1)) = 100 then
          dm220_21 x1 s
        else
          if aB x1 300 then
            if (sI s 145 (jN x1)) = 7 then
              dm220_21 x1 s
            else
              dm220_5 n (x1 + (-1)) s
          else none
      else none
set_option maxRecDepth 100000 in
theorem dt220_5 {sio : Bool} {tt : Nat} {cc : Nat → Nat → Int32} {d : Nat} (hd : 0 ≤ d) : ∀ (n : Nat) {x1 : Int32} {s : aS} (_ : Ly tt cc s) {o : Int32} (_ : dm220_5  n x1 s = some o), Q 2 sio tt cc d 220 5 [some (.ref 121), some (.int x1)] [] s (.inl (some (.int o)), s) := by
  intro n
  induction n with
  | zero => intro x1 s hl o h; rw [dm220_5] at h; cases h
  | succ n ih =>
    intro x1 s hl o h
    rw [dm220_5] at h
    refine Q.run zm220 1 (i' := 6) (ls' := [some (.ref 121), some (.int x1)]) (st' := [.int x1]) rfl ?_
    by_cases hc1 : x1 < 0
    · rw [if_pos hc1] at h
      refine Q.map (A.zT (gI_of zm220 (e := (8, 3, .ifCond .lt 31, [21])) rfl) (decide_eq_true hc1)) ?_
      exact dt220_21 hd hl  h
    · rw [if_neg hc1] at h
      refine Q.map (A.zF (gI_of zm220 (e := (8, 3, .ifCond .lt 31, [21])) rfl) (fun q => hc1 (of_decide_eq_true q))) ?_
      refine Q.run zm220 1 (i' := 8) (ls' := [some (.ref 121), some (.int x1)]) (st' := [.ref 121]) rfl ?_
      refine Q.map (A.gf (gI_of zm220 (e := (12, 3, .getfield 80, [9, 30])) rfl) (hl.lt (a := 121) (by decide)) (hl.T (a := 121) (p := (9, 45)) 43 rfl rfl) (by decide) (hl.R 46 rfl)) ?_
      refine Q.run zm220 1 (i' := 10) (ls' := [some (.ref 121), some (.int x1)]) (st' := [.int x1, .ref 145]) rfl ?_
      obtain ⟨hc2, h⟩ := ite_so h
      refine Q.map (A.ia (gI_of zm220 (e := (16, 1, .iaload, [])) rfl) (hl.lt (a := 145) (by decide)) (hl.T (a := 145) (p := (100, 300)) 67 rfl rfl) hc2) ?_
      refine Q.run zm220 1 (i' := 12) (ls' := [some (.ref 121), some (.int x1)]) (st' := [.int 100, .int (sI s 145 (jN x1))]) rfl ?_
      by_cases hc3 : (sI s 145 (jN x1)) = 100
      · rw [if_pos hc3] at h
        refine Q.map (A.bT (gI_of zm220 (e := (19, 3, .if_icmp .eq 20, [21])) rfl) (decide_eq_true hc3)) ?_
        exact dt220_21 hd hl  h
      · rw [if_neg hc3] at h
        refine Q.map (A.bF (gI_of zm220 (e := (19, 3, .if_icmp .eq 20, [21])) rfl) (fun q => hc3 (of_decide_eq_true q))) ?_
        refine Q.run zm220 1 (i' := 14) (ls' := [some (.ref 121), some (.int x1)]) (st' := [.ref 121]) rfl ?_
        refine Q.map (A.gf (gI_of zm220 (e := (23, 3, .getfield 80, [9, 30])) rfl) (hl.lt (a := 121) (by decide)) (hl.T (a := 121) (p := (9, 45)) 43 rfl rfl) (by decide) (hl.R 46 rfl)) ?_
        refine Q.run zm220 1 (i' := 16) (ls' := [some (.ref 121), some (.int x1)]) (st' := [.int x1, .ref 145]) rfl ?_
        obtain ⟨hc4, h⟩ := ite_so h
        refine Q.map (A.ia (gI_of zm220 (e := (27, 1, .iaload, [])) rfl) (hl.lt (a := 145) (by decide)) (hl.T (a := 145) (p := (100, 300)) 67 rfl rfl) hc4) ?_
        refine Q.run zm220 1 (i' := 18) (ls' := [some (.ref 121), some (.int x1)]) (st' := [.int 7, .int (sI s 145 (jN x1))]) rfl ?_
        by_cases hc5 : (sI s 145 (jN x1)) = 7
        · rw [if_pos hc5] at h
          refine Q.map (A.bT (gI_of zm220 (e := (30, 3, .if_icmp .eq 9, [21])) rfl) (decide_eq_true hc5)) ?_
          exact dt220_21 hd hl  h
        · rw [if_neg hc5] at h
          refine Q.map (A.bF (gI_of zm220 (e := (30, 3, .if_icmp .eq 9, [21])) rfl) (fun q => hc5 (of_decide_eq_true q))) ?_
          refine Q.run zm220 2 (i' := 5) (ls' := [some (.ref 121), some (.int (x1 + (-1)))]) (st' := []) rfl ?_
          exact ih hl  h
def dm220 (s : aS) : Option (Int32) :=
  dm220_5 5000 ((sI s 121 32) - 1) s
set_option maxRecDepth 100000 in
theorem dt220 {sio : Bool} {tt : Nat} {cc : Nat → Nat → Int32} {d : Nat} (hd : 0 ≤ d) {s : aS} (hl : Ly tt cc s) {o : Int32} (h : dm220  s = some o) : Q 2 sio tt cc d 220 0 [some (.ref 121), none] [] s (.inl (some (.int o)), s) := by
  unfold dm220 at h
  refine Q.run zm220 1 (i' := 1) (ls' := [some (.ref 121), none]) (st' := [.ref 121]) rfl ?_
  refine Q.map (A.gf (gI_of zm220 (e := (1, 3, .getfield 147, [9, 32])) rfl) (hl.lt (a := 121) (by decide)) (hl.T (a := 121) (p := (9, 45)) 43 rfl rfl) (by decide) rfl) ?_
  refine Q.run zm220 3 (i' := 5) (ls' := [some (.ref 121), some (.int ((sI s 121 32) - 1))]) (st' := []) rfl ?_
  exact dt220_5 hd _ hl  h
/-! 221 FormulaTreesModel.comma()V -/
set_option maxRecDepth 100000 in
theorem zm221 : zP[221]? = some zM221 := rfl
def dm221 (s : aS) : Option (aS) :=
  bu (dm190 0 s) fun s3 =>
  if aB ((sI s3 121 32) - 1) 300 then
    if aB (1024 + (sI s3 146 (jN ((sI s3 121 32) - 1)))) 1152 then
      if (sI s3 129 (jN (1024 + (sI s3 146 (jN ((sI s3 121 32) - 1)))))) = 29 then
        bu (dm186 (sI s3 121 26) s3) fun s9 =>
        some s9
      else
        bv (dm192 s3) fun r13 s12 =>
        bu (dm193 (sI s3 146 (jN ((sI s3 121 32) - 1))) r13 s12) fun s16 =>
        nx (wI s16 121 36 1) fun s17 =>
        nx (wI s17 121 35 2) fun s20 =>
        nx (wI s20 121 26 ((sI s20 121 26) + 1)) fun s23 =>
        some s23
    else none
  else none
set_option maxRecDepth 100000 in
theorem dt221 {sio : Bool} {tt : Nat} {cc : Nat → Nat → Int32} {d : Nat} (hd : 2 ≤ d) {s : aS} (hl : Ly tt cc s) {o : aS} (h : dm221  s = some o) : Q 2 sio tt cc d 221 0 [some (.ref 121), none] [] s (.inl none, o) := by
  unfold dm221 at h
  obtain ⟨d, rfl⟩ : ∃ e, d = e + 1 := ⟨d - 1, by omega⟩
  refine Q.run zm221 2 (i' := 2) (ls' := [some (.ref 121), none]) (st' := [.int 0, .ref 121]) rfl ?_
  obtain ⟨s3, hc2, h⟩ := bu_so h
  have hq1 : Q 2 sio tt cc d 190 0 [some (.ref 121), some (.int 0), none, none] [] s (.inl none, s3) := dt190 (by omega) hl  hc2
  refine Q.callV (gC_vi zm221 (show zM221.2.2.2.2.2[2]? = some (2, 3, .invokevirtual 282, [0, 190, 1, 9]) from rfl) zm190 (hl.lt (a := 121) (by decide)) (hl.T (a := 121) (p := (9, 45)) 43 rfl rfl) rfl (show aCr 1 121 [.int 0, .ref 121] 4 = some ([some (.ref 121), some (.int 0), none, none], []) from rfl)) hq1 ?_
  refine Q.run zm221 1 (i' := 4) (ls' := [some (.ref 121), none]) (st' := [.ref 121]) rfl ?_
  refine Q.map (A.gf (gI_of zm221 (e := (6, 3, .getfield 83, [9, 31])) rfl) (hq1.1.lt (a := 121) (by decide)) (hq1.1.T (a := 121) (p := (9, 45)) 43 rfl rfl) (by decide) (hq1.1.R 47 rfl)) ?_
  refine Q.run zm221 1 (i' := 6) (ls' := [some (.ref 121), none]) (st' := [.ref 121, .ref 146]) rfl ?_
  refine Q.map (A.gf (gI_of zm221 (e := (10, 3, .getfield 147, [9, 32])) rfl) (hq1.1.lt (a := 121) (by decide)) (hq1.1.T (a := 121) (p := (9, 45)) 43 rfl rfl) (by decide) rfl) ?_
  refine Q.run zm221 2 (i' := 9) (ls' := [some (.ref 121), none]) (st' := [.int ((sI s3 121 32) - 1), .ref 146]) rfl ?_
  obtain ⟨hc4, h⟩ := ite_so h
  refine Q.map (A.ia (gI_of zm221 (e := (15, 1, .iaload, [])) rfl) (hq1.1.lt (a := 146) (by decide)) (hq1.1.T (a := 146) (p := (100, 300)) 68 rfl rfl) hc4) ?_
  refine Q.run zm221 2 (i' := 12) (ls' := [some (.ref 121), some (.int (sI s3 146 (jN ((sI s3 121 32) - 1))))]) (st' := [.ref 121]) rfl ?_
  refine Q.map (A.gf (gI_of zm221 (e := (18, 3, .getfield 32, [9, 10])) rfl) (hq1.1.lt (a := 121) (by decide)) (hq1.1.T (a := 121) (p := (9, 45)) 43 rfl rfl) (by decide) (hq1.1.R 30 rfl)) ?_
  refine Q.run zm221 3 (i' := 16) (ls' := [some (.ref 121), some (.int (sI s3 146 (jN ((sI s3 121 32) - 1))))]) (st' := [.int (1024 + (sI s3 146 (jN ((sI s3 121 32) - 1)))), .ref 129]) rfl ?_
  obtain ⟨hc5, h⟩ := ite_so h
  refine Q.map (A.ia (gI_of zm221 (e := (26, 1, .iaload, [])) rfl) (hq1.1.lt (a := 129) (by decide)) (hq1.1.T (a := 129) (p := (100, 1152)) 51 rfl rfl) hc5) ?_
  refine Q.run zm221 1 (i' := 18) (ls' := [some (.ref 121), some (.int (sI s3 146 (jN ((sI s3 121 32) - 1))))]) (st' := [.int 29, .int (sI s3 129 (jN (1024 + (sI s3 146 (jN ((sI s3 121 32) - 1))))))]) rfl ?_
  by_cases hc6 : (sI s3 129 (jN (1024 + (sI s3 146 (jN ((sI s3 121 32) - 1)))))) = 29
  · rw [if_pos hc6] at h
    refine Q.map (A.bF (gI_of zm221 (e := (29, 3, .if_icmp .ne 12, [24])) rfl) (fun q => of_decide_eq_true q hc6)) ?_
    refine Q.run zm221 2 (i' := 21) (ls' := [some (.ref 121), some (.int (sI s3 146 (jN ((sI s3 121 32) - 1))))]) (st' := [.ref 121, .ref 121]) rfl ?_
    refine Q.map (A.gf (gI_of zm221 (e := (34, 3, .getfield 138, [9, 26])) rfl) (hq1.1.lt (a := 121) (by decide)) (hq1.1.T (a := 121) (p := (9, 45)) 43 rfl rfl) (by decide) rfl) ?_
    obtain ⟨s9, hc8, h⟩ := bu_so h
    have hq7 : Q 2 sio tt cc d 186 0 [some (.ref 121), some (.int (sI s3 121 26))] [] s3 (.inl none, s9) := dt186 (by omega) hq1.1  hc8
    refine Q.callV (gC_vi zm221 (show zM221.2.2.2.2.2[22]? = some (37, 3, .invokevirtual 164, [0, 186, 1, 9]) from rfl) zm186 (hq1.1.lt (a := 121) (by decide)) (hq1.1.T (a := 121) (p := (9, 45)) 43 rfl rfl) rfl (show aCr 1 121 [.int (sI s3 121 26), .ref 121] 2 = some ([some (.ref 121), some (.int (sI s3 121 26))], []) from rfl)) hq7 ?_
    cases h
    exact Q.ret (A.rv zm221 (show zM221.2.2.2.2.2[23]? = some (40, 1, .return_, []) from rfl) rfl) hq7.1
  · rw [if_neg hc6] at h
    refine Q.map (A.bT (gI_of zm221 (e := (29, 3, .if_icmp .ne 12, [24])) rfl) (decide_eq_true hc6)) ?_
    refine Q.run zm221 3 (i' := 27) (ls' := [some (.ref 121), some (.int (sI s3 146 (jN ((sI s3 121 32) - 1))))]) (st' := [.ref 121, .int (sI s3 146 (jN ((sI s3 121 32) - 1))), .ref 121]) rfl ?_
    obtain ⟨r13, s12, hc11, h⟩ := bv_so h
    have hq10 : Q 2 sio tt cc d 192 0 [some (.ref 121)] [] s3 (.inl (some (.int r13)), s12) := dt192 (by omega) hq1.1  hc11
    refine Q.callI (gC_vi zm221 (show zM221.2.2.2.2.2[27]? = some (44, 3, .invokevirtual 153, [0, 192, 0, 9]) from rfl) zm192 (hq1.1.lt (a := 121) (by decide)) (hq1.1.T (a := 121) (p := (9, 45)) 43 rfl rfl) rfl (show aCr 0 121 [.ref 121, .int (sI s3 146 (jN ((sI s3 121 32) - 1))), .ref 121] 1 = some ([some (.ref 121)], [.int (sI s3 146 (jN ((sI s3 121 32) - 1))), .ref 121]) from rfl)) hq10 ?_
    obtain ⟨s16, hc15, h⟩ := bu_so h
    have hq14 : Q 2 sio tt cc d 193 0 [some (.ref 121), some (.int (sI s3 146 (jN ((sI s3 121 32) - 1)))), some (.int r13)] [] s12 (.inl none, s16) := dt193 (by omega) hq10.1  hc15
    refine Q.callV (gC_vi zm221 (show zM221.2.2.2.2.2[28]? = some (47, 3, .invokevirtual 157, [0, 193, 2, 9]) from rfl) zm193 (hq10.1.lt (a := 121) (by decide)) (hq10.1.T (a := 121) (p := (9, 45)) 43 rfl rfl) rfl (show aCr 2 121 [.int r13, .int (sI s3 146 (jN ((sI s3 121 32) - 1))), .ref 121] 3 = some ([some (.ref 121), some (.int (sI s3 146 (jN ((sI s3 121 32) - 1)))), some (.int r13)], []) from rfl)) hq14 ?_
    refine Q.run zm221 2 (i' := 31) (ls' := [some (.ref 121), some (.int (sI s3 146 (jN ((sI s3 121 32) - 1))))]) (st' := [.int 1, .ref 121]) rfl ?_
    obtain ⟨s17, hs18, h⟩ := nx_so h
    refine Q.pf hs18 rfl (gI_of zm221 (e := (52, 3, .putfield 246, [9, 36, 1])) rfl) (hq14.1.lt (a := 121) (by decide)) (by decide) (hq14.1.T (a := 121) (p := (9, 45)) 43 rfl rfl) (by decide) rfl rfl ?_
    have hl19 : Ly tt cc s17 := by rw [hs18]; exact hq14.1.wId (by decide)
    refine Q.run zm221 2 (i' := 34) (ls' := [some (.ref 121), some (.int (sI s3 146 (jN ((sI s3 121 32) - 1))))]) (st' := [.int 2, .ref 121]) rfl ?_
    obtain ⟨s20, hs21, h⟩ := nx_so h
    refine Q.pf hs21 rfl (gI_of zm221 (e := (57, 3, .putfield 243, [9, 35, 0])) rfl) (hl19.lt (a := 121) (by decide)) (by decide) (hl19.T (a := 121) (p := (9, 45)) 43 rfl rfl) (by decide) rfl rfl ?_
    have hl22 : Ly tt cc s20 := by rw [hs21]; exact hl19.wId (by decide)
    refine Q.run zm221 2 (i' := 37) (ls' := [some (.ref 121), some (.int (sI s3 146 (jN ((sI s3 121 32) - 1))))]) (st' := [.ref 121, .ref 121]) rfl ?_
    refine Q.map (A.gf (gI_of zm221 (e := (62, 3, .getfield 138, [9, 26])) rfl) (hl22.lt (a := 121) (by decide)) (hl22.T (a := 121) (p := (9, 45)) 43 rfl rfl) (by decide) rfl) ?_
    refine Q.run zm221 2 (i' := 40) (ls' := [some (.ref 121), some (.int (sI s3 146 (jN ((sI s3 121 32) - 1))))]) (st' := [.int ((sI s20 121 26) + 1), .ref 121]) rfl ?_
    obtain ⟨s23, hs24, h⟩ := nx_so h
    refine Q.pf hs24 rfl (gI_of zm221 (e := (67, 3, .putfield 138, [9, 26, 0])) rfl) (hl22.lt (a := 121) (by decide)) (by decide) (hl22.T (a := 121) (p := (9, 45)) 43 rfl rfl) (by decide) rfl rfl ?_
    have hl25 : Ly tt cc s23 := by rw [hs24]; exact hl22.wId (by decide)
    cases h
    exact Q.ret (A.rv zm221 (show zM221.2.2.2.2.2[41]? = some (70, 1, .return_, []) from rfl) rfl) hl25
/-! 216 FormulaTreesModel.readBehind()V -/
set_option maxRecDepth 100000 in
theorem zm216 : zP[216]? = some zM216 := rfl
def dm216_107 (s : aS) : Option (aS) :=
  bu (dm186 (sI s 121 26) s) fun s3 =>
  some s3
set_option maxRecDepth 100000 in
theorem dt216_107 {sio : Bool} {tt : Nat} {cc : Nat → Nat → Int32} {d : Nat} (hd : 4 ≤ d) {x1 : Int32} {x2 : Int32} {x3 : Int32} {s : aS} (hl : Ly tt cc s) {o : aS} (h : dm216_107  s = some o) : Q 2 sio tt cc d 216 107 [some (.ref 121), some (.int x1), some (.int x2), some (.int x3), none] [] s (.inl none, o) := by
  unfold dm216_107 at h
  obtain ⟨d, rfl⟩ : ∃ e, d = e + 1 := ⟨d - 1, by omega⟩
  refine Q.run zm216 2 (i' := 109) (ls' := [some (.ref 121), some (.int x1), some (.int x2), some (.int x3), none]) (st' := [.ref 121, .ref 121]) rfl ?_
  refine Q.map (A.gf (gI_of zm216 (e := (210, 3, .getfield 138, [9, 26])) rfl) (hl.lt (a := 121) (by decide)) (hl.T (a := 121) (p := (9, 45)) 43 rfl rfl) (by decide) rfl) ?_
  obtain ⟨s3, hc2, h⟩ := bu_so h
  have hq1 : Q 2 sio tt cc d 186 0 [some (.ref 121), some (.int (sI s 121 26))] [] s (.inl none, s3) := dt186 (by omega) hl  hc2
  refine Q.callV (gC_vi zm216 (show zM216.2.2.2.2.2[110]? = some (213, 3, .invokevirtual 164, [0, 186, 1, 9]) from rfl) zm186 (hl.lt (a := 121) (by decide)) (hl.T (a := 121) (p := (9, 45)) 43 rfl rfl) rfl (show aCr 1 121 [.int (sI s 121 26), .ref 121] 2 = some ([some (.ref 121), some (.int (sI s 121 26))], []) from rfl)) hq1 ?_
  cases h
  exact Q.ret (A.rv zm216 (show zM216.2.2.2.2.2[111]? = some (216, 1, .return_, []) from rfl) rfl) hq1.1
def dm216_70 (x2 : Int32) (s : aS) : Option (aS) :=
  if x2 ≤ 0 then
    dm216_107 s
  else
    if 128 ≤ (sI s 121 21) then
      dm216_107 s
    else
      bu (dm191 (x2 - x2 / 100 * 100)) fun r5 =>
      bu (dm190 r5 s) fun s8 =>
      bv (dm187 (x2 - x2 / 100 * 100) s8) fun r12 s11 =>
      bu (dm188 (x2 - x2 / 100 * 100) r12 s11) fun s15 =>
      nx (wI s15 121 36 1) fun s16 =>
      nx (wI s16 121 35 0) fun s19 =>
      nx (wI s19 121 26 ((sI s19 121 26) + (x2 / 100))) fun s22 =>
      some s22
set_option maxRecDepth 100000 in
theorem dt216_70 {sio : Bool} {tt : Nat} {cc : Nat → Nat → Int32} {d : Nat} (hd : 4 ≤ d) {x2 : Int32} {x1 : Int32} {x3 : Int32} {s : aS} (hl : Ly tt cc s) {o : aS} (h : dm216_70  x2 s = some o) : Q 2 sio tt cc d 216 70 [some (.ref 121), some (.int x1), some (.int x2), some (.int x3), none] [] s (.inl none, o) := by
  unfold dm216_70 at h
  obtain ⟨d, rfl⟩ : ∃ e, d = e + 1 := ⟨d - 1, by omega⟩
  refine Q.run zm216 1 (i' := 71) (ls' := [some (.ref 121), some (.int x1), some (.int x2), some (.int x3), none]) (st' := [.int x2]) rfl ?_
  by_cases hc1 : x2 ≤ 0
  · rw [if_pos hc1] at h
    refine Q.map (A.zT (gI_of zm216 (e := (142, 3, .ifCond .le 66, [107])) rfl) (decide_eq_true hc1)) ?_
    exact dt216_107 hd hl  h
  · rw [if_neg hc1] at h
    refine Q.map (A.zF (gI_of zm216 (e := (142, 3, .ifCond .le 66, [107])) rfl) (fun q => hc1 (of_decide_eq_true q))) ?_
    refine Q.run zm216 1 (i' := 73) (ls' := [some (.ref 121), some (.int x1), some (.int x2), some (.int x3), none]) (st' := [.ref 121]) rfl ?_
    refine Q.map (A.gf (gI_of zm216 (e := (146, 3, .getfield 141, [9, 21])) rfl) (hl.lt (a := 121) (by decide)) (hl.T (a := 121) (p := (9, 45)) 43 rfl rfl) (by decide) rfl) ?_
    refine Q.run zm216 1 (i' := 75) (ls' := [some (.ref 121), some (.int x1), some (.int x2), some (.int x3), none]) (st' := [.int 128, .int (sI s 121 21)]) rfl ?_
    by_cases hc2 : 128 ≤ (sI s 121 21)
    · rw [if_pos hc2] at h
      refine Q.map (A.bT (gI_of zm216 (e := (152, 3, .if_icmp .ge 56, [107])) rfl) (decide_eq_true hc2)) ?_
      exact dt216_107 hd hl  h
    · rw [if_neg hc2] at h
      refine Q.map (A.bF (gI_of zm216 (e := (152, 3, .if_icmp .ge 56, [107])) rfl) (fun q => hc2 (of_decide_eq_true q))) ?_
      refine Q.run zm216 4 (i' := 80) (ls' := [some (.ref 121), some (.int x1), some (.int x2), some (.int x3), none]) (st' := [.int (x2 - x2 / 100 * 100), .ref 121]) rfl ?_
      obtain ⟨r5, hc4, h⟩ := bu_so h
      have hq3 : Q 2 sio tt cc d 191 0 [some (.int (x2 - x2 / 100 * 100))] [] s (.inl (some (.int r5)), s) := dt191 (by omega) hl  hc4
      refine Q.callI (gC_st zm216 (show zM216.2.2.2.2.2[80]? = some (160, 3, .invokestatic 150, [0, 191, 1]) from rfl) zm191 (show aC 1 [.int (x2 - x2 / 100 * 100), .ref 121] 1 = some ([some (.int (x2 - x2 / 100 * 100))], [.ref 121]) from rfl)) hq3 ?_
      obtain ⟨s8, hc7, h⟩ := bu_so h
      have hq6 : Q 2 sio tt cc d 190 0 [some (.ref 121), some (.int r5), none, none] [] s (.inl none, s8) := dt190 (by omega) hl  hc7
      refine Q.callV (gC_vi zm216 (show zM216.2.2.2.2.2[81]? = some (163, 3, .invokevirtual 282, [0, 190, 1, 9]) from rfl) zm190 (hl.lt (a := 121) (by decide)) (hl.T (a := 121) (p := (9, 45)) 43 rfl rfl) rfl (show aCr 1 121 [.int r5, .ref 121] 4 = some ([some (.ref 121), some (.int r5), none, none], []) from rfl)) hq6 ?_
      refine Q.run zm216 8 (i' := 90) (ls' := [some (.ref 121), some (.int x1), some (.int x2), some (.int x3), none]) (st' := [.int (x2 - x2 / 100 * 100), .ref 121, .int (x2 - x2 / 100 * 100), .ref 121]) rfl ?_
      obtain ⟨r12, s11, hc10, h⟩ := bv_so h
      have hq9 : Q 2 sio tt cc d 187 0 [some (.ref 121), some (.int (x2 - x2 / 100 * 100)), none, none] [] s8 (.inl (some (.int r12)), s11) := dt187 (by omega) hq6.1  hc10
      refine Q.callI (gC_vi zm216 (show zM216.2.2.2.2.2[90]? = some (176, 3, .invokevirtual 167, [0, 187, 1, 9]) from rfl) zm187 (hq6.1.lt (a := 121) (by decide)) (hq6.1.T (a := 121) (p := (9, 45)) 43 rfl rfl) rfl (show aCr 1 121 [.int (x2 - x2 / 100 * 100), .ref 121, .int (x2 - x2 / 100 * 100), .ref 121] 4 = some ([some (.ref 121), some (.int (x2 - x2 / 100 * 100)), none, none], [.int (x2 - x2 / 100 * 100), .ref 121]) from rfl)) hq9 ?_
      obtain ⟨s15, hc14, h⟩ := bu_so h
      have hq13 : Q 2 sio tt cc d 188 0 [some (.ref 121), some (.int (x2 - x2 / 100 * 100)), some (.int r12)] [] s11 (.inl none, s15) := dt188 (by omega) hq9.1  hc14
      refine Q.callV (gC_vi zm216 (show zM216.2.2.2.2.2[91]? = some (179, 3, .invokevirtual 240, [0, 188, 2, 9]) from rfl) zm188 (hq9.1.lt (a := 121) (by decide)) (hq9.1.T (a := 121) (p := (9, 45)) 43 rfl rfl) rfl (show aCr 2 121 [.int r12, .int (x2 - x2 / 100 * 100), .ref 121] 3 = some ([some (.ref 121), some (.int (x2 - x2 / 100 * 100)), some (.int r12)], []) from rfl)) hq13 ?_
      refine Q.run zm216 2 (i' := 94) (ls' := [some (.ref 121), some (.int x1), some (.int x2), some (.int x3), none]) (st' := [.int 1, .ref 121]) rfl ?_
      obtain ⟨s16, hs17, h⟩ := nx_so h
      refine Q.pf hs17 rfl (gI_of zm216 (e := (184, 3, .putfield 246, [9, 36, 1])) rfl) (hq13.1.lt (a := 121) (by decide)) (by decide) (hq13.1.T (a := 121) (p := (9, 45)) 43 rfl rfl) (by decide) rfl rfl ?_
      have hl18 : Ly tt cc s16 := by rw [hs17]; exact hq13.1.wId (by decide)
      refine Q.run zm216 2 (i' := 97) (ls' := [some (.ref 121), some (.int x1), some (.int x2), some (.int x3), none]) (st' := [.int 0, .ref 121]) rfl ?_
      obtain ⟨s19, hs20, h⟩ := nx_so h
      refine Q.pf hs20 rfl (gI_of zm216 (e := (189, 3, .putfield 243, [9, 35, 0])) rfl) (hl18.lt (a := 121) (by decide)) (by decide) (hl18.T (a := 121) (p := (9, 45)) 43 rfl rfl) (by decide) rfl rfl ?_
      have hl21 : Ly tt cc s19 := by rw [hs20]; exact hl18.wId (by decide)
      refine Q.run zm216 2 (i' := 100) (ls' := [some (.ref 121), some (.int x1), some (.int x2), some (.int x3), none]) (st' := [.ref 121, .ref 121]) rfl ?_
      refine Q.map (A.gf (gI_of zm216 (e := (194, 3, .getfield 138, [9, 26])) rfl) (hl21.lt (a := 121) (by decide)) (hl21.T (a := 121) (p := (9, 45)) 43 rfl rfl) (by decide) rfl) ?_
      refine Q.run zm216 4 (i' := 105) (ls' := [some (.ref 121), some (.int x1), some (.int x2), some (.int x3), none]) (st' := [.int ((sI s19 121 26) + (x2 / 100)), .ref 121]) rfl ?_
      obtain ⟨s22, hs23, h⟩ := nx_so h
      refine Q.pf hs23 rfl (gI_of zm216 (e := (202, 3, .putfield 138, [9, 26, 0])) rfl) (hl21.lt (a := 121) (by decide)) (by decide) (hl21.T (a := 121) (p := (9, 45)) 43 rfl rfl) (by decide) rfl rfl ?_
      have hl24 : Ly tt cc s22 := by rw [hs23]; exact hl21.wId (by decide)
      refine Q.run zm216 1 (i' := 111) (ls' := [some (.ref 121), some (.int x1), some (.int x2), some (.int x3), none]) (st' := []) rfl ?_
      cases h
      exact Q.ret (A.rv zm216 (show zM216.2.2.2.2.2[111]? = some (216, 1, .return_, []) from rfl) rfl) hl24
def dm216_44 (x1 : Int32) (x2 : Int32) (s : aS) : Option (aS) :=
  if x1 = 37 then
    if 128 ≤ (sI s 121 21) then
      dm216_70 x2 s
    else
      bv (dm187 9 s) fun r6 s5 =>
      bv (dm192 s5) fun r10 s9 =>
      bu (dm193 r6 r10 s9) fun s13 =>
      bu (dm194 r6 s13) fun s16 =>
      nx (wI s16 121 26 ((sI s16 121 26) + 1)) fun s17 =>
      some s17
  else
    dm216_70 x2 s
set_option maxRecDepth 100000 in
theorem dt216_44 {sio : Bool} {tt : Nat} {cc : Nat → Nat → Int32} {d : Nat} (hd : 4 ≤ d) {x1 : Int32} {x2 : Int32} {x3 : Int32} {s : aS} (hl : Ly tt cc s) {o : aS} (h : dm216_44  x1 x2 s = some o) : Q 2 sio tt cc d 216 44 [some (.ref 121), some (.int x1), some (.int x2), some (.int x3), none] [] s (.inl none, o) := by
  unfold dm216_44 at h
  obtain ⟨d, rfl⟩ : ∃ e, d = e + 1 := ⟨d - 1, by omega⟩
  refine Q.run zm216 2 (i' := 46) (ls' := [some (.ref 121), some (.int x1), some (.int x2), some (.int x3), none]) (st' := [.int 37, .int x1]) rfl ?_
  by_cases hc1 : x1 = 37
  · rw [if_pos hc1] at h
    refine Q.map (A.bF (gI_of zm216 (e := (91, 3, .if_icmp .ne 50, [70])) rfl) (fun q => of_decide_eq_true q hc1)) ?_
    refine Q.run zm216 1 (i' := 48) (ls' := [some (.ref 121), some (.int x1), some (.int x2), some (.int x3), none]) (st' := [.ref 121]) rfl ?_
    refine Q.map (A.gf (gI_of zm216 (e := (95, 3, .getfield 141, [9, 21])) rfl) (hl.lt (a := 121) (by decide)) (hl.T (a := 121) (p := (9, 45)) 43 rfl rfl) (by decide) rfl) ?_
    refine Q.run zm216 1 (i' := 50) (ls' := [some (.ref 121), some (.int x1), some (.int x2), some (.int x3), none]) (st' := [.int 128, .int (sI s 121 21)]) rfl ?_
    by_cases hc2 : 128 ≤ (sI s 121 21)
    · rw [if_pos hc2] at h
      refine Q.map (A.bT (gI_of zm216 (e := (101, 3, .if_icmp .ge 40, [70])) rfl) (decide_eq_true hc2)) ?_
      exact dt216_70 hd hl  h
    · rw [if_neg hc2] at h
      refine Q.map (A.bF (gI_of zm216 (e := (101, 3, .if_icmp .ge 40, [70])) rfl) (fun q => hc2 (of_decide_eq_true q))) ?_
      refine Q.run zm216 2 (i' := 53) (ls' := [some (.ref 121), some (.int x1), some (.int x2), some (.int x3), none]) (st' := [.int 9, .ref 121]) rfl ?_
      obtain ⟨r6, s5, hc4, h⟩ := bv_so h
      have hq3 : Q 2 sio tt cc d 187 0 [some (.ref 121), some (.int 9), none, none] [] s (.inl (some (.int r6)), s5) := dt187 (by omega) hl  hc4
      refine Q.callI (gC_vi zm216 (show zM216.2.2.2.2.2[53]? = some (107, 3, .invokevirtual 167, [0, 187, 1, 9]) from rfl) zm187 (hl.lt (a := 121) (by decide)) (hl.T (a := 121) (p := (9, 45)) 43 rfl rfl) rfl (show aCr 1 121 [.int 9, .ref 121] 4 = some ([some (.ref 121), some (.int 9), none, none], []) from rfl)) hq3 ?_
      refine Q.run zm216 4 (i' := 58) (ls' := [some (.ref 121), some (.int x1), some (.int x2), some (.int x3), some (.int r6)]) (st' := [.ref 121, .int r6, .ref 121]) rfl ?_
      obtain ⟨r10, s9, hc8, h⟩ := bv_so h
      have hq7 : Q 2 sio tt cc d 192 0 [some (.ref 121)] [] s5 (.inl (some (.int r10)), s9) := dt192 (by omega) hq3.1  hc8
      refine Q.callI (gC_vi zm216 (show zM216.2.2.2.2.2[58]? = some (116, 3, .invokevirtual 153, [0, 192, 0, 9]) from rfl) zm192 (hq3.1.lt (a := 121) (by decide)) (hq3.1.T (a := 121) (p := (9, 45)) 43 rfl rfl) rfl (show aCr 0 121 [.ref 121, .int r6, .ref 121] 1 = some ([some (.ref 121)], [.int r6, .ref 121]) from rfl)) hq7 ?_
      obtain ⟨s13, hc12, h⟩ := bu_so h
      have hq11 : Q 2 sio tt cc d 193 0 [some (.ref 121), some (.int r6), some (.int r10)] [] s9 (.inl none, s13) := dt193 (by omega) hq7.1  hc12
      refine Q.callV (gC_vi zm216 (show zM216.2.2.2.2.2[59]? = some (119, 3, .invokevirtual 157, [0, 193, 2, 9]) from rfl) zm193 (hq7.1.lt (a := 121) (by decide)) (hq7.1.T (a := 121) (p := (9, 45)) 43 rfl rfl) rfl (show aCr 2 121 [.int r10, .int r6, .ref 121] 3 = some ([some (.ref 121), some (.int r6), some (.int r10)], []) from rfl)) hq11 ?_
      refine Q.run zm216 2 (i' := 62) (ls' := [some (.ref 121), some (.int x1), some (.int x2), some (.int x3), some (.int r6)]) (st' := [.int r6, .ref 121]) rfl ?_
      obtain ⟨s16, hc15, h⟩ := bu_so h
      have hq14 : Q 2 sio tt cc d 194 0 [some (.ref 121), some (.int r6)] [] s13 (.inl none, s16) := dt194 (by omega) hq11.1  hc15
      refine Q.callV (gC_vi zm216 (show zM216.2.2.2.2.2[62]? = some (125, 3, .invokevirtual 161, [0, 194, 1, 9]) from rfl) zm194 (hq11.1.lt (a := 121) (by decide)) (hq11.1.T (a := 121) (p := (9, 45)) 43 rfl rfl) rfl (show aCr 1 121 [.int r6, .ref 121] 2 = some ([some (.ref 121), some (.int r6)], []) from rfl)) hq14 ?_
      refine Q.run zm216 2 (i' := 65) (ls' := [some (.ref 121), some (.int x1), some (.int x2), some (.int x3), some (.int r6)]) (st' := [.ref 121, .ref 121]) rfl ?_
      refine Q.map (A.gf (gI_of zm216 (e := (130, 3, .getfield 138, [9, 26])) rfl) (hq14.1.lt (a := 121) (by decide)) (hq14.1.T (a := 121) (p := (9, 45)) 43 rfl rfl) (by decide) rfl) ?_
      refine Q.run zm216 2 (i' := 68) (ls' := [some (.ref 121), some (.int x1), some (.int x2), some (.int x3), some (.int r6)]) (st' := [.int ((sI s16 121 26) + 1), .ref 121]) rfl ?_
      obtain ⟨s17, hs18, h⟩ := nx_so h
      refine Q.pf hs18 rfl (gI_of zm216 (e := (135, 3, .putfield 138, [9, 26, 0])) rfl) (hq14.1.lt (a := 121) (by decide)) (by decide) (hq14.1.T (a := 121) (p := (9, 45)) 43 rfl rfl) (by decide) rfl rfl ?_
      have hl19 : Ly tt cc s17 := by rw [hs18]; exact hq14.1.wId (by decide)
      refine Q.run zm216 1 (i' := 111) (ls' := [some (.ref 121), some (.int x1), some (.int x2), some (.int x3), some (.int r6)]) (st' := []) rfl ?_
      cases h
      exact Q.ret (A.rv zm216 (show zM216.2.2.2.2.2[111]? = some (216, 1, .return_, []) from rfl) rfl) hl19
  · rw [if_neg hc1] at h
    refine Q.map (A.bT (gI_of zm216 (e := (91, 3, .if_icmp .ne 50, [70])) rfl) (decide_eq_true hc1)) ?_
    exact dt216_70 hd hl  h
def dm216_34 (x1 : Int32) (x2 : Int32) (s : aS) : Option (aS) :=
  if x1 = 44 then
    bu (dm220 s) fun r4 =>
    if r4 = 7 then
      bu (dm221 s) fun s8 =>
      some s8
    else
      dm216_44 x1 x2 s
  else
    dm216_44 x1 x2 s
set_option maxRecDepth 100000 in
theorem dt216_34 {sio : Bool} {tt : Nat} {cc : Nat → Nat → Int32} {d : Nat} (hd : 4 ≤ d) {x1 : Int32} {x2 : Int32} {x3 : Int32} {s : aS} (hl : Ly tt cc s) {o : aS} (h : dm216_34  x1 x2 s = some o) : Q 2 sio tt cc d 216 34 [some (.ref 121), some (.int x1), some (.int x2), some (.int x3), none] [] s (.inl none, o) := by
  unfold dm216_34 at h
  obtain ⟨d, rfl⟩ : ∃ e, d = e + 1 := ⟨d - 1, by omega⟩
  refine Q.run zm216 2 (i' := 36) (ls' := [some (.ref 121), some (.int x1), some (.int x2), some (.int x3), none]) (st' := [.int 44, .int x1]) rfl ?_
  by_cases hc1 : x1 = 44
  · rw [if_pos hc1] at h
    refine Q.map (A.bF (gI_of zm216 (e := (69, 3, .if_icmp .ne 19, [44])) rfl) (fun q => of_decide_eq_true q hc1)) ?_
    refine Q.run zm216 1 (i' := 38) (ls' := [some (.ref 121), some (.int x1), some (.int x2), some (.int x3), none]) (st' := [.ref 121]) rfl ?_
    obtain ⟨r4, hc3, h⟩ := bu_so h
    have hq2 : Q 2 sio tt cc d 220 0 [some (.ref 121), none] [] s (.inl (some (.int r4)), s) := dt220 (by omega) hl  hc3
    refine Q.callI (gC_vi zm216 (show zM216.2.2.2.2.2[38]? = some (73, 3, .invokevirtual 291, [0, 220, 0, 9]) from rfl) zm220 (hl.lt (a := 121) (by decide)) (hl.T (a := 121) (p := (9, 45)) 43 rfl rfl) rfl (show aCr 0 121 [.ref 121] 2 = some ([some (.ref 121), none], []) from rfl)) hq2 ?_
    refine Q.run zm216 1 (i' := 40) (ls' := [some (.ref 121), some (.int x1), some (.int x2), some (.int x3), none]) (st' := [.int 7, .int r4]) rfl ?_
    by_cases hc5 : r4 = 7
    · rw [if_pos hc5] at h
      refine Q.map (A.bF (gI_of zm216 (e := (78, 3, .if_icmp .ne 10, [44])) rfl) (fun q => of_decide_eq_true q hc5)) ?_
      refine Q.run zm216 1 (i' := 42) (ls' := [some (.ref 121), some (.int x1), some (.int x2), some (.int x3), none]) (st' := [.ref 121]) rfl ?_
      obtain ⟨s8, hc7, h⟩ := bu_so h
      have hq6 : Q 2 sio tt cc d 221 0 [some (.ref 121), none] [] s (.inl none, s8) := dt221 (by omega) hl  hc7
      refine Q.callV (gC_vi zm216 (show zM216.2.2.2.2.2[42]? = some (82, 3, .invokevirtual 294, [0, 221, 0, 9]) from rfl) zm221 (hl.lt (a := 121) (by decide)) (hl.T (a := 121) (p := (9, 45)) 43 rfl rfl) rfl (show aCr 0 121 [.ref 121] 2 = some ([some (.ref 121), none], []) from rfl)) hq6 ?_
      refine Q.run zm216 1 (i' := 111) (ls' := [some (.ref 121), some (.int x1), some (.int x2), some (.int x3), none]) (st' := []) rfl ?_
      cases h
      exact Q.ret (A.rv zm216 (show zM216.2.2.2.2.2[111]? = some (216, 1, .return_, []) from rfl) rfl) hq6.1
    · rw [if_neg hc5] at h
      refine Q.map (A.bT (gI_of zm216 (e := (78, 3, .if_icmp .ne 10, [44])) rfl) (decide_eq_true hc5)) ?_
      exact dt216_44 hd hl  h
  · rw [if_neg hc1] at h
    refine Q.map (A.bT (gI_of zm216 (e := (69, 3, .if_icmp .ne 19, [44])) rfl) (decide_eq_true hc1)) ?_
    exact dt216_44 hd hl  h
def dm216_25 (x1 : Int32) (x2 : Int32) (s : aS) : Option (aS) :=
  if x1 = 41 then
    if (sI s 121 33) ≤ 0 then
      dm216_34 x1 x2 s
    else
      bu (dm189 s) fun s5 =>
      some s5
  else
    dm216_34 x1 x2 s
set_option maxRecDepth 100000 in
theorem dt216_25 {sio : Bool} {tt : Nat} {cc : Nat → Nat → Int32} {d : Nat} (hd : 4 ≤ d) {x1 : Int32} {x2 : Int32} {x3 : Int32} {s : aS} (hl : Ly tt cc s) {o : aS} (h : dm216_25  x1 x2 s = some o) : Q 2 sio tt cc d 216 25 [some (.ref 121), some (.int x1), some (.int x2), some (.int x3), none] [] s (.inl none, o) := by
  unfold dm216_25 at h
  obtain ⟨d, rfl⟩ : ∃ e, d = e + 1 := ⟨d - 1, by omega⟩
  refine Q.run zm216 2 (i' := 27) (ls' := [some (.ref 121), some (.int x1), some (.int x2), some (.int x3), none]) (st' := [.int 41, .int x1]) rfl ?_
  by_cases hc1 : x1 = 41
  · rw [if_pos hc1] at h
    refine Q.map (A.bF (gI_of zm216 (e := (49, 3, .if_icmp .ne 17, [34])) rfl) (fun q => of_decide_eq_true q hc1)) ?_
    refine Q.run zm216 1 (i' := 29) (ls' := [some (.ref 121), some (.int x1), some (.int x2), some (.int x3), none]) (st' := [.ref 121]) rfl ?_
    refine Q.map (A.gf (gI_of zm216 (e := (53, 3, .getfield 237, [9, 33])) rfl) (hl.lt (a := 121) (by decide)) (hl.T (a := 121) (p := (9, 45)) 43 rfl rfl) (by decide) rfl) ?_
    by_cases hc2 : (sI s 121 33) ≤ 0
    · rw [if_pos hc2] at h
      refine Q.map (A.zT (gI_of zm216 (e := (56, 3, .ifCond .le 10, [34])) rfl) (decide_eq_true hc2)) ?_
      exact dt216_34 hd hl  h
    · rw [if_neg hc2] at h
      refine Q.map (A.zF (gI_of zm216 (e := (56, 3, .ifCond .le 10, [34])) rfl) (fun q => hc2 (of_decide_eq_true q))) ?_
      refine Q.run zm216 1 (i' := 32) (ls' := [some (.ref 121), some (.int x1), some (.int x2), some (.int x3), none]) (st' := [.ref 121]) rfl ?_
      obtain ⟨s5, hc4, h⟩ := bu_so h
      have hq3 : Q 2 sio tt cc d 189 0 [some (.ref 121), none] [] s (.inl none, s5) := dt189 (by omega) hl  hc4
      refine Q.callV (gC_vi zm216 (show zM216.2.2.2.2.2[32]? = some (60, 3, .invokevirtual 276, [0, 189, 0, 9]) from rfl) zm189 (hl.lt (a := 121) (by decide)) (hl.T (a := 121) (p := (9, 45)) 43 rfl rfl) rfl (show aCr 0 121 [.ref 121] 2 = some ([some (.ref 121), none], []) from rfl)) hq3 ?_
      refine Q.run zm216 1 (i' := 111) (ls' := [some (.ref 121), some (.int x1), some (.int x2), some (.int x3), none]) (st' := []) rfl ?_
      cases h
      exact Q.ret (A.rv zm216 (show zM216.2.2.2.2.2[111]? = some (216, 1, .return_, []) from rfl) rfl) hq3.1
  · rw [if_neg hc1] at h
    refine Q.map (A.bT (gI_of zm216 (e := (49, 3, .if_icmp .ne 17, [34])) rfl) (decide_eq_true hc1)) ?_
    exact dt216_34 hd hl  h
def dm216 (s : aS) : Option (aS) :=
  bu (dm176 (sI s 121 26) s) fun r3 =>
  bu (dm217 s) fun r6 =>
  nx (wI s 121 34 (-1)) fun s7 =>
  if r3 = 58 then
    if (sI s 121 34) < 0 then
      dm216_25 r3 r6 s7
    else
      nx (wI s7 121 34 (sI s 121 34)) fun s12 =>
      bu (dm218 s12) fun s17 =>
      some s17
  else
    dm216_25 r3 r6 s7
set_option maxRecDepth 100000 in
theorem dt216 {sio : Bool} {tt : Nat} {cc : Nat → Nat → Int32} {d : Nat} (hd : 4 ≤ d) {s : aS} (hl : Ly tt cc s) {o : aS} (h : dm216  s = some o) : Q 2 sio tt cc d 216 0 [some (.ref 121), none, none, none, none] [] s (.inl none, o) := by
  unfold dm216 at h
  obtain ⟨d, rfl⟩ : ∃ e, d = e + 1 := ⟨d - 1, by omega⟩
  refine Q.run zm216 2 (i' := 2) (ls' := [some (.ref 121), none, none, none, none]) (st' := [.ref 121, .ref 121]) rfl ?_
  refine Q.map (A.gf (gI_of zm216 (e := (2, 3, .getfield 138, [9, 26])) rfl) (hl.lt (a := 121) (by decide)) (hl.T (a := 121) (p := (9, 45)) 43 rfl rfl) (by decide) rfl) ?_
  obtain ⟨r3, hc2, h⟩ := bu_so h
  have hq1 : Q 2 sio tt cc d 176 0 [some (.ref 121), some (.int (sI s 121 26))] [] s (.inl (some (.int r3)), s) := dt176 (by omega) hl  hc2
  refine Q.callI (gC_vi zm216 (show zM216.2.2.2.2.2[3]? = some (5, 3, .invokevirtual 113, [0, 176, 1, 9]) from rfl) zm176 (hl.lt (a := 121) (by decide)) (hl.T (a := 121) (p := (9, 45)) 43 rfl rfl) rfl (show aCr 1 121 [.int (sI s 121 26), .ref 121] 2 = some ([some (.ref 121), some (.int (sI s 121 26))], []) from rfl)) hq1 ?_
  refine Q.run zm216 2 (i' := 6) (ls' := [some (.ref 121), some (.int r3), none, none, none]) (st' := [.ref 121]) rfl ?_
  obtain ⟨r6, hc5, h⟩ := bu_so h
  have hq4 : Q 2 sio tt cc d 217 0 [some (.ref 121), none, none] [] s (.inl (some (.int r6)), s) := dt217 (by omega) hl  hc5
  refine Q.callI (gC_vi zm216 (show zM216.2.2.2.2.2[6]? = some (10, 3, .invokevirtual 285, [0, 217, 0, 9]) from rfl) zm217 (hl.lt (a := 121) (by decide)) (hl.T (a := 121) (p := (9, 45)) 43 rfl rfl) rfl (show aCr 0 121 [.ref 121] 3 = some ([some (.ref 121), none, none], []) from rfl)) hq4 ?_
  refine Q.run zm216 2 (i' := 9) (ls' := [some (.ref 121), some (.int r3), some (.int r6), none, none]) (st' := [.ref 121]) rfl ?_
  refine Q.map (A.gf (gI_of zm216 (e := (15, 3, .getfield 213, [9, 34])) rfl) (hl.lt (a := 121) (by decide)) (hl.T (a := 121) (p := (9, 45)) 43 rfl rfl) (by decide) rfl) ?_
  refine Q.run zm216 3 (i' := 13) (ls' := [some (.ref 121), some (.int r3), some (.int r6), some (.int (sI s 121 34)), none]) (st' := [.int (-1), .ref 121]) rfl ?_
  obtain ⟨s7, hs8, h⟩ := nx_so h
  refine Q.pf hs8 rfl (gI_of zm216 (e := (21, 3, .putfield 213, [9, 34, 0])) rfl) (hl.lt (a := 121) (by decide)) (by decide) (hl.T (a := 121) (p := (9, 45)) 43 rfl rfl) (by decide) rfl rfl ?_
  have hl9 : Ly tt cc s7 := by rw [hs8]; exact hl.wId (by decide)
  refine Q.run zm216 2 (i' := 16) (ls' := [some (.ref 121), some (.int r3), some (.int r6), some (.int (sI s 121 34)), none]) (st' := [.int 58, .int r3]) rfl ?_
  by_cases hc10 : r3 = 58
  · rw [if_pos hc10] at h
    refine Q.map (A.bF (gI_of zm216 (e := (27, 3, .if_icmp .ne 19, [25])) rfl) (fun q => of_decide_eq_true q hc10)) ?_
    refine Q.run zm216 1 (i' := 18) (ls' := [some (.ref 121), some (.int r3), some (.int r6), some (.int (sI s 121 34)), none]) (st' := [.int (sI s 121 34)]) rfl ?_
    by_cases hc11 : (sI s 121 34) < 0
    · rw [if_pos hc11] at h
      refine Q.map (A.zT (gI_of zm216 (e := (31, 3, .ifCond .lt 15, [25])) rfl) (decide_eq_true hc11)) ?_
      exact dt216_25 hd hl9  h
    · rw [if_neg hc11] at h
      refine Q.map (A.zF (gI_of zm216 (e := (31, 3, .ifCond .lt 15, [25])) rfl) (fun q => hc11 (of_decide_eq_true q))) ?_
      refine Q.run zm216 2 (i' := 21) (ls' := [some (.ref 121), some (.int r3), some (.int r6), some (.int (sI s 121 34)), none]) (st' := [.int (sI s 121 34), .ref 121]) rfl ?_
      obtain ⟨s12, hs13, h⟩ := nx_so h
      refine Q.pf hs13 rfl (gI_of zm216 (e := (36, 3, .putfield 213, [9, 34, 0])) rfl) (hl9.lt (a := 121) (by decide)) (by decide) (hl9.T (a := 121) (p := (9, 45)) 43 rfl rfl) (by decide) rfl rfl ?_
      have hl14 : Ly tt cc s12 := by rw [hs13]; exact hl9.wId (by decide)
      refine Q.run zm216 1 (i' := 23) (ls' := [some (.ref 121), some (.int r3), some (.int r6), some (.int (sI s 121 34)), none]) (st' := [.ref 121]) rfl ?_
      obtain ⟨s17, hc16, h⟩ := bu_so h
      have hq15 : Q 2 sio tt cc d 218 0 [some (.ref 121), none] [] s12 (.inl none, s17) := dt218 (by omega) hl14  hc16
      refine Q.callV (gC_vi zm216 (show zM216.2.2.2.2.2[23]? = some (40, 3, .invokevirtual 288, [0, 218, 0, 9]) from rfl) zm218 (hl14.lt (a := 121) (by decide)) (hl14.T (a := 121) (p := (9, 45)) 43 rfl rfl) rfl (show aCr 0 121 [.ref 121] 2 = some ([some (.ref 121), none], []) from rfl)) hq15 ?_
      refine Q.run zm216 1 (i' := 111) (ls' := [some (.ref 121), some (.int r3), some (.int r6), some (.int (sI s 121 34)), none]) (st' := []) rfl ?_
      cases h
      exact Q.ret (A.rv zm216 (show zM216.2.2.2.2.2[111]? = some (216, 1, .return_, []) from rfl) rfl) hq15.1
  · rw [if_neg hc10] at h
    refine Q.map (A.bT (gI_of zm216 (e := (27, 3, .if_icmp .ne 19, [25])) rfl) (decide_eq_true hc10)) ?_
    exact dt216_25 hd hl9  h
end
section
/-! 223 FormulaTreesModel.copyNode(II)V -/
set_option maxRecDepth 100000 in
theorem zm223 : zP[223]? = some zM223 := rfl
def dm223 (x1 : Int32) (x2 : Int32) (s : aS) : Option (aS) :=
  if aB x1 1152 then
    if aB x2 1152 then
      nx (wI s 128 (jN x2) (sI s 128 (jN x1))) fun s3 =>
      if aB x1 1152 then
        if aB x2 1152 then
          nx (wI s3 129 (jN x2) (sI s3 129 (jN x1))) fun s8 =>
          if aB x1 1152 then
            if aB x2 1152 then
              nx (wI s8 130 (jN x2) (sI s8 130 (jN x1))) fun s13 =>
              if aB x1 1152 then
                if aB x2 1152 then
                  nx (wI s13 131 (jN x2) (sI s13 131 (jN x1))) fun s18 =>
                  if aB x1 1152 then
                    if aB x2 1152 then
                      nx (wI s18 132 (jN x2) (sI s18 132 (jN x1))) fun s23 =>
                      if aB x1 1152 then
                        if aB x2 1152 then
                          nx (wI s23 133 (jN x2) (sI s23 133 (jN x1))) fun s28 =>
                          if aB x1 1152 then
                            if aB x2 1152 then
                              nx (wI s28 134 (jN x2) (sI s28 134 (jN x1))) fun s33 =>
                              if aB x1 1152 then
                                if aB x2 1152 then
                                  nx (wI s33 135 (jN x2) (sI s33 135 (jN x1))) fun s38 =>
                                  if aB x1 1152 then
                                    if aB x2 1152 then
                                      nx (wI s38 136 (jN x2) (sI s38 136 (jN x1))) fun s43 =>
                                      if aB x1 1152 then
                                        if aB x2 1152 then
                                          nx (wI s43 137 (jN x2) (sI s43 137 (jN x1))) fun s48 =>
                                          if aB x1 1152 then
                                            if aB x2 1152 then
                                              nx (wI s48 138 (jN x2) (sI s48 138 (jN x1))) fun s53 =>
                                              some s53
                                            else none
                                          else none
                                        else none
                                      else none
                                    else none
                                  else none
                                else none
                              else none
                            else none
                          else none
                        else none
                      else none
                    else none
                  else none
                else none
              else none
            else none
          else none
        else none
      else none
    else none
  else none
set_option maxRecDepth 100000 in
theorem dt223 {sio : Bool} {tt : Nat} {cc : Nat → Nat → Int32} {d : Nat} (hd : 0 ≤ d) {x1 : Int32} {x2 : Int32} {s : aS} (hl : Ly tt cc s) {o : aS} (h : dm223  x1 x2 s = some o) : Q 2 sio tt cc d 223 0 [some (.ref 121), some (.int x1), some (.int x2)] [] s (.inl none, o) := by
  unfold dm223 at h
  refine Q.run zm223 1 (i' := 1) (ls' := [some (.ref 121), some (.int x1), some (.int x2)]) (st' := [.ref 121]) rfl ?_
  refine Q.map (A.gf (gI_of zm223 (e := (1, 3, .getfield 29, [9, 9])) rfl) (hl.lt (a := 121) (by decide)) (hl.T (a := 121) (p := (9, 45)) 43 rfl rfl) (by decide) (hl.R 29 rfl)) ?_
  refine Q.run zm223 2 (i' := 4) (ls' := [some (.ref 121), some (.int x1), some (.int x2)]) (st' := [.ref 121, .int x2, .ref 128]) rfl ?_
  refine Q.map (A.gf (gI_of zm223 (e := (6, 3, .getfield 29, [9, 9])) rfl) (hl.lt (a := 121) (by decide)) (hl.T (a := 121) (p := (9, 45)) 43 rfl rfl) (by decide) (hl.R 29 rfl)) ?_
  refine Q.run zm223 1 (i' := 6) (ls' := [some (.ref 121), some (.int x1), some (.int x2)]) (st' := [.int x1, .ref 128, .int x2, .ref 128]) rfl ?_
  obtain ⟨hc1, h⟩ := ite_so h
  refine Q.map (A.ia (gI_of zm223 (e := (10, 1, .iaload, [])) rfl) (hl.lt (a := 128) (by decide)) (hl.T (a := 128) (p := (100, 1152)) 50 rfl rfl) hc1) ?_
  obtain ⟨hc2, h⟩ := ite_so h
  obtain ⟨s3, hs4, h⟩ := nx_so h
  refine Q.is hs4 rfl (gI_of zm223 (e := (11, 1, .iastore, [])) rfl) (hl.lt (a := 128) (by decide)) (by decide) (hl.T (a := 128) (p := (100, 1152)) 50 rfl rfl) hc2 ?_
  have hl5 : Ly tt cc s3 := by rw [hs4]; exact hl.wId (by decide)
  refine Q.run zm223 1 (i' := 9) (ls' := [some (.ref 121), some (.int x1), some (.int x2)]) (st' := [.ref 121]) rfl ?_
  refine Q.map (A.gf (gI_of zm223 (e := (13, 3, .getfield 32, [9, 10])) rfl) (hl5.lt (a := 121) (by decide)) (hl5.T (a := 121) (p := (9, 45)) 43 rfl rfl) (by decide) (hl5.R 30 rfl)) ?_
  refine Q.run zm223 2 (i' := 12) (ls' := [some (.ref 121), some (.int x1), some (.int x2)]) (st' := [.ref 121, .int x2, .ref 129]) rfl ?_
  refine Q.map (A.gf (gI_of zm223 (e := (18, 3, .getfield 32, [9, 10])) rfl) (hl5.lt (a := 121) (by decide)) (hl5.T (a := 121) (p := (9, 45)) 43 rfl rfl) (by decide) (hl5.R 30 rfl)) ?_
  refine Q.run zm223 1 (i' := 14) (ls' := [some (.ref 121), some (.int x1), some (.int x2)]) (st' := [.int x1, .ref 129, .int x2, .ref 129]) rfl ?_
  obtain ⟨hc6, h⟩ := ite_so h
  refine Q.map (A.ia (gI_of zm223 (e := (22, 1, .iaload, [])) rfl) (hl5.lt (a := 129) (by decide)) (hl5.T (a := 129) (p := (100, 1152)) 51 rfl rfl) hc6) ?_
  obtain ⟨hc7, h⟩ := ite_so h
  obtain ⟨s8, hs9, h⟩ := nx_so h
  refine Q.is hs9 rfl (gI_of zm223 (e := (23, 1, .iastore, [])) rfl) (hl5.lt (a := 129) (by decide)) (by decide) (hl5.T (a := 129) (p := (100, 1152)) 51 rfl rfl) hc7 ?_
  have hl10 : Ly tt cc s8 := by rw [hs9]; exact hl5.wId (by decide)
  refine Q.run zm223 1 (i' := 17) (ls' := [some (.ref 121), some (.int x1), some (.int x2)]) (st' := [.ref 121]) rfl ?_
  refine Q.map (A.gf (gI_of zm223 (e := (25, 3, .getfield 35, [9, 11])) rfl) (hl10.lt (a := 121) (by decide)) (hl10.T (a := 121) (p := (9, 45)) 43 rfl rfl) (by decide) (hl10.R 31 rfl)) ?_
  refine Q.run zm223 2 (i' := 20) (ls' := [some (.ref 121), some (.int x1), some (.int x2)]) (st' := [.ref 121, .int x2, .ref 130]) rfl ?_
  refine Q.map (A.gf (gI_of zm223 (e := (30, 3, .getfield 35, [9, 11])) rfl) (hl10.lt (a := 121) (by decide)) (hl10.T (a := 121) (p := (9, 45)) 43 rfl rfl) (by decide) (hl10.R 31 rfl)) ?_
  refine Q.run zm223 1 (i' := 22) (ls' := [some (.ref 121), some (.int x1), some (.int x2)]) (st' := [.int x1, .ref 130, .int x2, .ref 130]) rfl ?_
  obtain ⟨hc11, h⟩ := ite_so h
  refine Q.map (A.ia (gI_of zm223 (e := (34, 1, .iaload, [])) rfl) (hl10.lt (a := 130) (by decide)) (hl10.T (a := 130) (p := (100, 1152)) 52 rfl rfl) hc11) ?_
  obtain ⟨hc12, h⟩ := ite_so h
  obtain ⟨s13, hs14, h⟩ := nx_so h
  refine Q.is hs14 rfl (gI_of zm223 (e := (35, 1, .iastore, [])) rfl) (hl10.lt (a := 130) (by decide)) (by decide) (hl10.T (a := 130) (p := (100, 1152)) 52 rfl rfl) hc12 ?_
  have hl15 : Ly tt cc s13 := by rw [hs14]; exact hl10.wId (by decide)
  refine Q.run zm223 1 (i' := 25) (ls' := [some (.ref 121), some (.int x1), some (.int x2)]) (st' := [.ref 121]) rfl ?_
  refine Q.map (A.gf (gI_of zm223 (e := (37, 3, .getfield 38, [9, 12])) rfl) (hl15.lt (a := 121) (by decide)) (hl15.T (a := 121) (p := (9, 45)) 43 rfl rfl) (by decide) (hl15.R 32 rfl)) ?_
  refine Q.run zm223 2 (i' := 28) (ls' := [some (.ref 121), some (.int x1), some (.int x2)]) (st' := [.ref 121, .int x2, .ref 131]) rfl ?_
  refine Q.map (A.gf (gI_of zm223 (e := (42, 3, .getfield 38, [9, 12])) rfl) (hl15.lt (a := 121) (by decide)) (hl15.T (a := 121) (p := (9, 45)) 43 rfl rfl) (by decide) (hl15.R 32 rfl)) ?_
  refine Q.run zm223 1 (i' := 30) (ls' := [some (.ref 121), some (.int x1), some (.int x2)]) (st' := [.int x1, .ref 131, .int x2, .ref 131]) rfl ?_
  obtain ⟨hc16, h⟩ := ite_so h
  refine Q.map (A.ia (gI_of zm223 (e := (46, 1, .iaload, [])) rfl) (hl15.lt (a := 131) (by decide)) (hl15.T (a := 131) (p := (100, 1152)) 53 rfl rfl) hc16) ?_
  obtain ⟨hc17, h⟩ := ite_so h
  obtain ⟨s18, hs19, h⟩ := nx_so h
  refine Q.is hs19 rfl (gI_of zm223 (e := (47, 1, .iastore, [])) rfl) (hl15.lt (a := 131) (by decide)) (by decide) (hl15.T (a := 131) (p := (100, 1152)) 53 rfl rfl) hc17 ?_
  have hl20 : Ly tt cc s18 := by rw [hs19]; exact hl15.wId (by decide)
  refine Q.run zm223 1 (i' := 33) (ls' := [some (.ref 121), some (.int x1), some (.int x2)]) (st' := [.ref 121]) rfl ?_
  refine Q.map (A.gf (gI_of zm223 (e := (49, 3, .getfield 41, [9, 13])) rfl) (hl20.lt (a := 121) (by decide)) (hl20.T (a := 121) (p := (9, 45)) 43 rfl rfl) (by decide) (hl20.R 33 rfl)) ?_
  refine Q.run zm223 2 (i' := 36) (ls' := [some (.ref 121), some (.int x1), some (.int x2)]) (st' := [.ref 121, .int x2, .ref 132]) rfl ?_
  refine Q.map (A.gf (gI_of zm223 (e := (54, 3, .getfield 41, [9, 13])) rfl) (hl20.lt (a := 121) (by decide)) (hl20.T (a := 121) (p := (9, 45)) 43 rfl rfl) (by decide) (hl20.R 33 rfl)) ?_
  refine Q.run zm223 1 (i' := 38) (ls' := [some (.ref 121), some (.int x1), some (.int x2)]) (st' := [.int x1, .ref 132, .int x2, .ref 132]) rfl ?_
  obtain ⟨hc21, h⟩ := ite_so h
  refine Q.map (A.ia (gI_of zm223 (e := (58, 1, .iaload, [])) rfl) (hl20.lt (a := 132) (by decide)) (hl20.T (a := 132) (p := (100, 1152)) 54 rfl rfl) hc21) ?_
  obtain ⟨hc22, h⟩ := ite_so h
  obtain ⟨s23, hs24, h⟩ := nx_so h
  refine Q.is hs24 rfl (gI_of zm223 (e := (59, 1, .iastore, [])) rfl) (hl20.lt (a := 132) (by decide)) (by decide) (hl20.T (a := 132) (p := (100, 1152)) 54 rfl rfl) hc22 ?_
  have hl25 : Ly tt cc s23 := by rw [hs24]; exact hl20.wId (by decide)
  refine Q.run zm223 1 (i' := 41) (ls' := [some (.ref 121), some (.int x1), some (.int x2)]) (st' := [.ref 121]) rfl ?_
  refine Q.map (A.gf (gI_of zm223 (e := (61, 3, .getfield 44, [9, 14])) rfl) (hl25.lt (a := 121) (by decide)) (hl25.T (a := 121) (p := (9, 45)) 43 rfl rfl) (by decide) (hl25.R 34 rfl)) ?_
  refine Q.run zm223 2 (i' := 44) (ls' := [some (.ref 121), some (.int x1), some (.int x2)]) (st' := [.ref 121, .int x2, .ref 133]) rfl ?_
  refine Q.map (A.gf (gI_of zm223 (e := (66, 3, .getfield 44, [9, 14])) rfl) (hl25.lt (a := 121) (by decide)) (hl25.T (a := 121) (p := (9, 45)) 43 rfl rfl) (by decide) (hl25.R 34 rfl)) ?_
  refine Q.run zm223 1 (i' := 46) (ls' := [some (.ref 121), some (.int x1), some (.int x2)]) (st' := [.int x1, .ref 133, .int x2, .ref 133]) rfl ?_
  obtain ⟨hc26, h⟩ := ite_so h
  refine Q.map (A.ia (gI_of zm223 (e := (70, 1, .iaload, [])) rfl) (hl25.lt (a := 133) (by decide)) (hl25.T (a := 133) (p := (100, 1152)) 55 rfl rfl) hc26) ?_
  obtain ⟨hc27, h⟩ := ite_so h
  obtain ⟨s28, hs29, h⟩ := nx_so h
  refine Q.is hs29 rfl (gI_of zm223 (e := (71, 1, .iastore, [])) rfl) (hl25.lt (a := 133) (by decide)) (by decide) (hl25.T (a := 133) (p := (100, 1152)) 55 rfl rfl) hc27 ?_
  have hl30 : Ly tt cc s28 := by rw [hs29]; exact hl25.wId (by decide)
  refine Q.run zm223 1 (i' := 49) (ls' := [some (.ref 121), some (.int x1), some (.int x2)]) (st' := [.ref 121]) rfl ?_
  refine Q.map (A.gf (gI_of zm223 (e := (73, 3, .getfield 47, [9, 15])) rfl) (hl30.lt (a := 121) (by decide)) (hl30.T (a := 121) (p := (9, 45)) 43 rfl rfl) (by decide) (hl30.R 35 rfl)) ?_
  refine Q.run zm223 2 (i' := 52) (ls' := [some (.ref 121), some (.int x1), some (.int x2)]) (st' := [.ref 121, .int x2, .ref 134]) rfl ?_
  refine Q.map (A.gf (gI_of zm223 (e := (78, 3, .getfield 47, [9, 15])) rfl) (hl30.lt (a := 121) (by decide)) (hl30.T (a := 121) (p := (9, 45)) 43 rfl rfl) (by decide) (hl30.R 35 rfl)) ?_
  refine Q.run zm223 1 (i' := 54) (ls' := [some (.ref 121), some (.int x1), some (.int x2)]) (st' := [.int x1, .ref 134, .int x2, .ref 134]) rfl ?_
  obtain ⟨hc31, h⟩ := ite_so h
  refine Q.map (A.ia (gI_of zm223 (e := (82, 1, .iaload, [])) rfl) (hl30.lt (a := 134) (by decide)) (hl30.T (a := 134) (p := (100, 1152)) 56 rfl rfl) hc31) ?_
  obtain ⟨hc32, h⟩ := ite_so h
  obtain ⟨s33, hs34, h⟩ := nx_so h
  refine Q.is hs34 rfl (gI_of zm223 (e := (83, 1, .iastore, [])) rfl) (hl30.lt (a := 134) (by decide)) (by decide) (hl30.T (a := 134) (p := (100, 1152)) 56 rfl rfl) hc32 ?_
  have hl35 : Ly tt cc s33 := by rw [hs34]; exact hl30.wId (by decide)
  refine Q.run zm223 1 (i' := 57) (ls' := [some (.ref 121), some (.int x1), some (.int x2)]) (st' := [.ref 121]) rfl ?_
  refine Q.map (A.gf (gI_of zm223 (e := (85, 3, .getfield 50, [9, 16])) rfl) (hl35.lt (a := 121) (by decide)) (hl35.T (a := 121) (p := (9, 45)) 43 rfl rfl) (by decide) (hl35.R 36 rfl)) ?_
  refine Q.run zm223 2 (i' := 60) (ls' := [some (.ref 121), some (.int x1), some (.int x2)]) (st' := [.ref 121, .int x2, .ref 135]) rfl ?_
  refine Q.map (A.gf (gI_of zm223 (e := (90, 3, .getfield 50, [9, 16])) rfl) (hl35.lt (a := 121) (by decide)) (hl35.T (a := 121) (p := (9, 45)) 43 rfl rfl) (by decide) (hl35.R 36 rfl)) ?_
  refine Q.run zm223 1 (i' := 62) (ls' := [some (.ref 121), some (.int x1), some (.int x2)]) (st' := [.int x1, .ref 135, .int x2, .ref 135]) rfl ?_
  obtain ⟨hc36, h⟩ := ite_so h
  refine Q.map (A.ia (gI_of zm223 (e := (94, 1, .iaload, [])) rfl) (hl35.lt (a := 135) (by decide)) (hl35.T (a := 135) (p := (100, 1152)) 57 rfl rfl) hc36) ?_
  obtain ⟨hc37, h⟩ := ite_so h
  obtain ⟨s38, hs39, h⟩ := nx_so h
  refine Q.is hs39 rfl (gI_of zm223 (e := (95, 1, .iastore, [])) rfl) (hl35.lt (a := 135) (by decide)) (by decide) (hl35.T (a := 135) (p := (100, 1152)) 57 rfl rfl) hc37 ?_
  have hl40 : Ly tt cc s38 := by rw [hs39]; exact hl35.wId (by decide)
  refine Q.run zm223 1 (i' := 65) (ls' := [some (.ref 121), some (.int x1), some (.int x2)]) (st' := [.ref 121]) rfl ?_
  refine Q.map (A.gf (gI_of zm223 (e := (97, 3, .getfield 53, [9, 17])) rfl) (hl40.lt (a := 121) (by decide)) (hl40.T (a := 121) (p := (9, 45)) 43 rfl rfl) (by decide) (hl40.R 37 rfl)) ?_
  refine Q.run zm223 2 (i' := 68) (ls' := [some (.ref 121), some (.int x1), some (.int x2)]) (st' := [.ref 121, .int x2, .ref 136]) rfl ?_
  refine Q.map (A.gf (gI_of zm223 (e := (102, 3, .getfield 53, [9, 17])) rfl) (hl40.lt (a := 121) (by decide)) (hl40.T (a := 121) (p := (9, 45)) 43 rfl rfl) (by decide) (hl40.R 37 rfl)) ?_
  refine Q.run zm223 1 (i' := 70) (ls' := [some (.ref 121), some (.int x1), some (.int x2)]) (st' := [.int x1, .ref 136, .int x2, .ref 136]) rfl ?_
  obtain ⟨hc41, h⟩ := ite_so h
  refine Q.map (A.ia (gI_of zm223 (e := (106, 1, .iaload, [])) rfl) (hl40.lt (a := 136) (by decide)) (hl40.T (a := 136) (p := (100, 1152)) 58 rfl rfl) hc41) ?_
  obtain ⟨hc42, h⟩ := ite_so h
  obtain ⟨s43, hs44, h⟩ := nx_so h
  refine Q.is hs44 rfl (gI_of zm223 (e := (107, 1, .iastore, [])) rfl) (hl40.lt (a := 136) (by decide)) (by decide) (hl40.T (a := 136) (p := (100, 1152)) 58 rfl rfl) hc42 ?_
  have hl45 : Ly tt cc s43 := by rw [hs44]; exact hl40.wId (by decide)
  refine Q.run zm223 1 (i' := 73) (ls' := [some (.ref 121), some (.int x1), some (.int x2)]) (st' := [.ref 121]) rfl ?_
  refine Q.map (A.gf (gI_of zm223 (e := (109, 3, .getfield 56, [9, 18])) rfl) (hl45.lt (a := 121) (by decide)) (hl45.T (a := 121) (p := (9, 45)) 43 rfl rfl) (by decide) (hl45.R 38 rfl)) ?_
  refine Q.run zm223 2 (i' := 76) (ls' := [some (.ref 121), some (.int x1), some (.int x2)]) (st' := [.ref 121, .int x2, .ref 137]) rfl ?_
  refine Q.map (A.gf (gI_of zm223 (e := (114, 3, .getfield 56, [9, 18])) rfl) (hl45.lt (a := 121) (by decide)) (hl45.T (a := 121) (p := (9, 45)) 43 rfl rfl) (by decide) (hl45.R 38 rfl)) ?_
  refine Q.run zm223 1 (i' := 78) (ls' := [some (.ref 121), some (.int x1), some (.int x2)]) (st' := [.int x1, .ref 137, .int x2, .ref 137]) rfl ?_
  obtain ⟨hc46, h⟩ := ite_so h
  refine Q.map (A.ia (gI_of zm223 (e := (118, 1, .iaload, [])) rfl) (hl45.lt (a := 137) (by decide)) (hl45.T (a := 137) (p := (100, 1152)) 59 rfl rfl) hc46) ?_
  obtain ⟨hc47, h⟩ := ite_so h
  obtain ⟨s48, hs49, h⟩ := nx_so h
  refine Q.is hs49 rfl (gI_of zm223 (e := (119, 1, .iastore, [])) rfl) (hl45.lt (a := 137) (by decide)) (by decide) (hl45.T (a := 137) (p := (100, 1152)) 59 rfl rfl) hc47 ?_
  have hl50 : Ly tt cc s48 := by rw [hs49]; exact hl45.wId (by decide)
  refine Q.run zm223 1 (i' := 81) (ls' := [some (.ref 121), some (.int x1), some (.int x2)]) (st' := [.ref 121]) rfl ?_
  refine Q.map (A.gf (gI_of zm223 (e := (121, 3, .getfield 59, [9, 19])) rfl) (hl50.lt (a := 121) (by decide)) (hl50.T (a := 121) (p := (9, 45)) 43 rfl rfl) (by decide) (hl50.R 39 rfl)) ?_
  refine Q.run zm223 2 (i' := 84) (ls' := [some (.ref 121), some (.int x1), some (.int x2)]) (st' := [.ref 121, .int x2, .ref 138]) rfl ?_
  refine Q.map (A.gf (gI_of zm223 (e := (126, 3, .getfield 59, [9, 19])) rfl) (hl50.lt (a := 121) (by decide)) (hl50.T (a := 121) (p := (9, 45)) 43 rfl rfl) (by decide) (hl50.R 39 rfl)) ?_
  refine Q.run zm223 1 (i' := 86) (ls' := [some (.ref 121), some (.int x1), some (.int x2)]) (st' := [.int x1, .ref 138, .int x2, .ref 138]) rfl ?_
  obtain ⟨hc51, h⟩ := ite_so h
  refine Q.map (A.ia (gI_of zm223 (e := (130, 1, .iaload, [])) rfl) (hl50.lt (a := 138) (by decide)) (hl50.T (a := 138) (p := (100, 1152)) 60 rfl rfl) hc51) ?_
  obtain ⟨hc52, h⟩ := ite_so h
  obtain ⟨s53, hs54, h⟩ := nx_so h
  refine Q.is hs54 rfl (gI_of zm223 (e := (131, 1, .iastore, [])) rfl) (hl50.lt (a := 138) (by decide)) (by decide) (hl50.T (a := 138) (p := (100, 1152)) 60 rfl rfl) hc52 ?_
  have hl55 : Ly tt cc s53 := by rw [hs54]; exact hl50.wId (by decide)
  cases h
  exact Q.ret (A.rv zm223 (show zM223.2.2.2.2.2[88]? = some (132, 1, .return_, []) from rfl) rfl) hl55
/-! 222 FormulaTreesModel.layOut(II)V -/
set_option maxRecDepth 100000 in
theorem zm222 : zP[222]? = some zM222 := rfl
def dm222_72 : Nat → Int32 → Int32 → aS → Option (aS)
  | 0, _, _, _ => none
  | n + 1, x2, x5, s =>
    if (sI s 121 1) ≤ x5 then
      some s
    else
      if aB (2048 + x5) 2304 then
        if aB ((256 * x2) + x5) 2304 then
          nx (wI s 139 (jN ((256 * x2) + x5)) (sI s 139 (jN (2048 + x5)))) fun s4 =>
          dm222_72 n x2 (x5 + 1) s4
        else none
      else none
set_option maxRecDepth 100000 in
theorem dt222_72 {sio : Bool} {tt : Nat} {cc : Nat → Nat → Int32} {d : Nat} (hd : 1 ≤ d) : ∀ (n : Nat) {x2 : Int32} {x5 : Int32} {x1 : Int32} {x3 : Int32} {x4 : Int32} {g6 : Option Value} {g7 : Option Value} {g8 : Option Value} {s : aS} (_ : Ly tt cc s) {o : aS} (_ : dm222_72  n x2 x5 s = some o), Q 2 sio tt cc d 222 72 [some (.ref 121), some (.int x1), some (.int x2), some (.int x3), some (.int x4), some (.int x5), g6, g7, g8] [] s (.inl none, o) := by
  obtain ⟨d, rfl⟩ : ∃ e, d = e + 1 := ⟨d - 1, by omega⟩
  intro n
  induction n with
  | zero => intro x2 x5 x1 x3 x4 g6 g7 g8 s hl o h; rw [dm222_72] at h; cases h
  | succ n ih =>
    intro x2 x5 x1 x3 x4 g6 g7 g8 s hl o h
    rw [dm222_72] at h
    refine Q.run zm222 2 (i' := 74) (ls' := [some (.ref 121), some (.int x1), some (.int x2), some (.int x3), some (.int x4), some (.int x5), g6, g7, g8]) (st' := [.ref 121, .int x5]) rfl ?_
    refine Q.map (A.gf (gI_of zm222 (e := (132, 3, .getfield 103, [9, 1])) rfl) (hl.lt (a := 121) (by decide)) (hl.T (a := 121) (p := (9, 45)) 43 rfl rfl) (by decide) rfl) ?_
    by_cases hc1 : (sI s 121 1) ≤ x5
    · rw [if_pos hc1] at h
      refine Q.map (A.bT (gI_of zm222 (e := (135, 3, .if_icmp .ge 33, [92])) rfl) (decide_eq_true hc1)) ?_
      cases h
      exact Q.ret (A.rv zm222 (show zM222.2.2.2.2.2[92]? = some (168, 1, .return_, []) from rfl) rfl) hl
    · rw [if_neg hc1] at h
      refine Q.map (A.bF (gI_of zm222 (e := (135, 3, .if_icmp .ge 33, [92])) rfl) (fun q => hc1 (of_decide_eq_true q))) ?_
      refine Q.run zm222 1 (i' := 77) (ls' := [some (.ref 121), some (.int x1), some (.int x2), some (.int x3), some (.int x4), some (.int x5), g6, g7, g8]) (st' := [.ref 121]) rfl ?_
      refine Q.map (A.gf (gI_of zm222 (e := (139, 3, .getfield 62, [9, 20])) rfl) (hl.lt (a := 121) (by decide)) (hl.T (a := 121) (p := (9, 45)) 43 rfl rfl) (by decide) (hl.R 40 rfl)) ?_
      refine Q.run zm222 6 (i' := 84) (ls' := [some (.ref 121), some (.int x1), some (.int x2), some (.int x3), some (.int x4), some (.int x5), g6, g7, g8]) (st' := [.ref 121, .int ((256 * x2) + x5), .ref 139]) rfl ?_
      refine Q.map (A.gf (gI_of zm222 (e := (151, 3, .getfield 62, [9, 20])) rfl) (hl.lt (a := 121) (by decide)) (hl.T (a := 121) (p := (9, 45)) 43 rfl rfl) (by decide) (hl.R 40 rfl)) ?_
      refine Q.run zm222 3 (i' := 88) (ls' := [some (.ref 121), some (.int x1), some (.int x2), some (.int x3), some (.int x4), some (.int x5), g6, g7, g8]) (st' := [.int (2048 + x5), .ref 139, .int ((256 * x2) + x5), .ref 139]) rfl ?_
      obtain ⟨hc2, h⟩ := ite_so h
      refine Q.map (A.ia (gI_of zm222 (e := (160, 1, .iaload, [])) rfl) (hl.lt (a := 139) (by decide)) (hl.T (a := 139) (p := (100, 2304)) 61 rfl rfl) hc2) ?_
      obtain ⟨hc3, h⟩ := ite_so h
      obtain ⟨s4, hs5, h⟩ := nx_so h
      refine Q.is hs5 rfl (gI_of zm222 (e := (161, 1, .iastore, [])) rfl) (hl.lt (a := 139) (by decide)) (by decide) (hl.T (a := 139) (p := (100, 2304)) 61 rfl rfl) hc3 ?_
      have hl6 : Ly tt cc s4 := by rw [hs5]; exact hl.wId (by decide)
      refine Q.run zm222 2 (i' := 72) (ls' := [some (.ref 121), some (.int x1), some (.int x2), some (.int x3), some (.int x4), some (.int (x5 + 1)), g6, g7, g8]) (st' := []) rfl ?_
      exact ih hl6  h
def dm222_46 (k9 : Int32 → Int32 → Int32 → aS → Option (aS)) : Nat → Int32 → Int32 → Int32 → Int32 → Int32 → Int32 → aS → Option (aS)
  | 0, _, _, _, _, _, _, _ => none
  | n + 1, x2, x3, x4, x6, x7, x8, s =>
    if x8 < 0 then
      k9 x2 x3 (x4 + x6) s
    else
      if aB x7 128 then
        nx (wI s 143 (jN x7) x8) fun s3 =>
        if aB x8 128 then
          dm222_46 k9 n x2 x3 x4 x6 (x7 + (-1)) (sI s3 142 (jN x8)) s3
        else none
      else none
set_option maxRecDepth 100000 in
theorem dt222_46 {sio : Bool} {tt : Nat} {cc : Nat → Nat → Int32} {d : Nat} (hd : 1 ≤ d) {k9 : Int32 → Int32 → Int32 → aS → Option (aS)} (hk9 : ∀ {x2 : Int32} {x3 : Int32} {x4 : Int32} {x1 : Int32} {g5 : Option Value} {g6 : Option Value} {g7 : Option Value} {g8 : Option Value} {s : aS}, Ly tt cc s → ∀ {o : aS}, k9 x2 x3 x4 s = some o → Q 2 sio tt cc d 222 9 [some (.ref 121), some (.int x1), some (.int x2), some (.int x3), some (.int x4), g5, g6, g7, g8] [] s (.inl none, o)) : ∀ (n : Nat) {x2 : Int32} {x3 : Int32} {x4 : Int32} {x6 : Int32} {x7 : Int32} {x8 : Int32} {x1 : Int32} {x5 : Int32} {s : aS} (_ : Ly tt cc s) {o : aS} (_ : dm222_46 k9 n x2 x3 x4 x6 x7 x8 s = some o), Q 2 sio tt cc d 222 46 [some (.ref 121), some (.int x1), some (.int x2), some (.int x3), some (.int x4), some (.int x5), some (.int x6), some (.int x7), some (.int x8)] [] s (.inl none, o) := by
  obtain ⟨d, rfl⟩ : ∃ e, d = e + 1 := ⟨d - 1, by omega⟩
  intro n
  induction n with
  | zero => intro x2 x3 x4 x6 x7 x8 x1 x5 s hl o h; rw [dm222_46] at h; cases h
  | succ n ih =>
    intro x2 x3 x4 x6 x7 x8 x1 x5 s hl o h
    rw [dm222_46] at h
    refine Q.run zm222 1 (i' := 47) (ls' := [some (.ref 121), some (.int x1), some (.int x2), some (.int x3), some (.int x4), some (.int x5), some (.int x6), some (.int x7), some (.int x8)]) (st' := [.int x8]) rfl ?_
    by_cases hc1 : x8 < 0
    · rw [if_pos hc1] at h
      refine Q.map (A.zT (gI_of zm222 (e := (82, 3, .ifCond .lt 27, [60])) rfl) (decide_eq_true hc1)) ?_
      refine Q.run zm222 5 (i' := 9) (ls' := [some (.ref 121), some (.int x1), some (.int x2), some (.int x3), some (.int (x4 + x6)), some (.int x5), some (.int x6), some (.int x7), some (.int x8)]) (st' := []) rfl ?_
      exact hk9 hl  h
    · rw [if_neg hc1] at h
      refine Q.map (A.zF (gI_of zm222 (e := (82, 3, .ifCond .lt 27, [60])) rfl) (fun q => hc1 (of_decide_eq_true q))) ?_
      refine Q.run zm222 1 (i' := 49) (ls' := [some (.ref 121), some (.int x1), some (.int x2), some (.int x3), some (.int x4), some (.int x5), some (.int x6), some (.int x7), some (.int x8)]) (st' := [.ref 121]) rfl ?_
      refine Q.map (A.gf (gI_of zm222 (e := (86, 3, .getfield 74, [9, 25])) rfl) (hl.lt (a := 121) (by decide)) (hl.T (a := 121) (p := (9, 45)) 43 rfl rfl) (by decide) (hl.R 44 rfl)) ?_
      refine Q.run zm222 2 (i' := 52) (ls' := [some (.ref 121), some (.int x1), some (.int x2), some (.int x3), some (.int x4), some (.int x5), some (.int x6), some (.int x7), some (.int x8)]) (st' := [.int x8, .int x7, .ref 143]) rfl ?_
      obtain ⟨hc2, h⟩ := ite_so h
      obtain ⟨s3, hs4, h⟩ := nx_so h
      refine Q.is hs4 rfl (gI_of zm222 (e := (93, 1, .iastore, [])) rfl) (hl.lt (a := 143) (by decide)) (by decide) (hl.T (a := 143) (p := (100, 128)) 65 rfl rfl) hc2 ?_
      have hl5 : Ly tt cc s3 := by rw [hs4]; exact hl.wId (by decide)
      refine Q.run zm222 2 (i' := 55) (ls' := [some (.ref 121), some (.int x1), some (.int x2), some (.int x3), some (.int x4), some (.int x5), some (.int x6), some (.int (x7 + (-1))), some (.int x8)]) (st' := [.ref 121]) rfl ?_
      refine Q.map (A.gf (gI_of zm222 (e := (98, 3, .getfield 71, [9, 24])) rfl) (hl5.lt (a := 121) (by decide)) (hl5.T (a := 121) (p := (9, 45)) 43 rfl rfl) (by decide) (hl5.R 43 rfl)) ?_
      refine Q.run zm222 1 (i' := 57) (ls' := [some (.ref 121), some (.int x1), some (.int x2), some (.int x3), some (.int x4), some (.int x5), some (.int x6), some (.int (x7 + (-1))), some (.int x8)]) (st' := [.int x8, .ref 142]) rfl ?_
      obtain ⟨hc6, h⟩ := ite_so h
      refine Q.map (A.ia (gI_of zm222 (e := (103, 1, .iaload, [])) rfl) (hl5.lt (a := 142) (by decide)) (hl5.T (a := 142) (p := (100, 128)) 64 rfl rfl) hc6) ?_
      refine Q.run zm222 2 (i' := 46) (ls' := [some (.ref 121), some (.int x1), some (.int x2), some (.int x3), some (.int x4), some (.int x5), some (.int x6), some (.int (x7 + (-1))), some (.int (sI s3 142 (jN x8)))]) (st' := []) rfl ?_
      exact ih hl5  h
def dm222_9 : Nat → Int32 → Int32 → Int32 → aS → Option (aS)
  | 0, _, _, _, _ => none
  | n + 1, x2, x3, x4, s =>
    if x4 ≤ 0 then
      if aB x2 9 then
        nx (wI s 127 (jN x2) x3) fun s3 =>
        dm222_72 5000 x2 0 s3
      else none
    else
      if aB (x4 + (-1)) 128 then
        bu (dm223 (1024 + (sI s 143 (jN (x4 + (-1))))) ((128 * x2) + x3) s) fun s9 =>
        if aB (1024 + (sI s 143 (jN (x4 + (-1))))) 1152 then
          if aB (sI s 143 (jN (x4 + (-1)))) 128 then
            dm222_46 (dm222_9 n) 5000 x2 (x3 + 1) (x4 + (-1)) (sI s9 129 (jN (1024 + (sI s 143 (jN (x4 + (-1))))))) (((x4 + (-1)) + (sI s9 129 (jN (1024 + (sI s 143 (jN (x4 + (-1)))))))) - 1) (sI s9 140 (jN (sI s 143 (jN (x4 + (-1)))))) s9
          else none
        else none
      else none
set_option maxRecDepth 100000 in
theorem dt222_9 {sio : Bool} {tt : Nat} {cc : Nat → Nat → Int32} {d : Nat} (hd : 1 ≤ d) : ∀ (n : Nat) {x2 : Int32} {x3 : Int32} {x4 : Int32} {x1 : Int32} {g5 : Option Value} {g6 : Option Value} {g7 : Option Value} {g8 : Option Value} {s : aS} (_ : Ly tt cc s) {o : aS} (_ : dm222_9  n x2 x3 x4 s = some o), Q 2 sio tt cc d 222 9 [some (.ref 121), some (.int x1), some (.int x2), some (.int x3), some (.int x4), g5, g6, g7, g8] [] s (.inl none, o) := by
  obtain ⟨d, rfl⟩ : ∃ e, d = e + 1 := ⟨d - 1, by omega⟩
  intro n
  induction n with
  | zero => intro x2 x3 x4 x1 g5 g6 g7 g8 s hl o h; rw [dm222_9] at h; cases h
  | succ n ih =>
    intro x2 x3 x4 x1 g5 g6 g7 g8 s hl o h
    rw [dm222_9] at h
    refine Q.run zm222 1 (i' := 10) (ls' := [some (.ref 121), some (.int x1), some (.int x2), some (.int x3), some (.int x4), g5, g6, g7, g8]) (st' := [.int x4]) rfl ?_
    by_cases hc1 : x4 ≤ 0
    · rw [if_pos hc1] at h
      refine Q.map (A.zT (gI_of zm222 (e := (14, 3, .ifCond .le 105, [65])) rfl) (decide_eq_true hc1)) ?_
      refine Q.run zm222 1 (i' := 66) (ls' := [some (.ref 121), some (.int x1), some (.int x2), some (.int x3), some (.int x4), g5, g6, g7, g8]) (st' := [.ref 121]) rfl ?_
      refine Q.map (A.gf (gI_of zm222 (e := (120, 3, .getfield 26, [9, 8])) rfl) (hl.lt (a := 121) (by decide)) (hl.T (a := 121) (p := (9, 45)) 43 rfl rfl) (by decide) (hl.R 28 rfl)) ?_
      refine Q.run zm222 2 (i' := 69) (ls' := [some (.ref 121), some (.int x1), some (.int x2), some (.int x3), some (.int x4), g5, g6, g7, g8]) (st' := [.int x3, .int x2, .ref 127]) rfl ?_
      obtain ⟨hc2, h⟩ := ite_so h
      obtain ⟨s3, hs4, h⟩ := nx_so h
      refine Q.is hs4 rfl (gI_of zm222 (e := (125, 1, .iastore, [])) rfl) (hl.lt (a := 127) (by decide)) (by decide) (hl.T (a := 127) (p := (100, 9)) 49 rfl rfl) hc2 ?_
      have hl5 : Ly tt cc s3 := by rw [hs4]; exact hl.wId (by decide)
      refine Q.run zm222 2 (i' := 72) (ls' := [some (.ref 121), some (.int x1), some (.int x2), some (.int x3), some (.int x4), some (.int 0), g6, g7, g8]) (st' := []) rfl ?_
      exact dt222_72 hd _ hl5  h
    · rw [if_neg hc1] at h
      refine Q.map (A.zF (gI_of zm222 (e := (14, 3, .ifCond .le 105, [65])) rfl) (fun q => hc1 (of_decide_eq_true q))) ?_
      refine Q.run zm222 2 (i' := 13) (ls' := [some (.ref 121), some (.int x1), some (.int x2), some (.int x3), some (.int (x4 + (-1))), g5, g6, g7, g8]) (st' := [.ref 121]) rfl ?_
      refine Q.map (A.gf (gI_of zm222 (e := (21, 3, .getfield 74, [9, 25])) rfl) (hl.lt (a := 121) (by decide)) (hl.T (a := 121) (p := (9, 45)) 43 rfl rfl) (by decide) (hl.R 44 rfl)) ?_
      refine Q.run zm222 1 (i' := 15) (ls' := [some (.ref 121), some (.int x1), some (.int x2), some (.int x3), some (.int (x4 + (-1))), g5, g6, g7, g8]) (st' := [.int (x4 + (-1)), .ref 143]) rfl ?_
      obtain ⟨hc6, h⟩ := ite_so h
      refine Q.map (A.ia (gI_of zm222 (e := (26, 1, .iaload, [])) rfl) (hl.lt (a := 143) (by decide)) (hl.T (a := 143) (p := (100, 128)) 65 rfl rfl) hc6) ?_
      refine Q.run zm222 10 (i' := 26) (ls' := [some (.ref 121), some (.int x1), some (.int x2), some (.int x3), some (.int (x4 + (-1))), some (.int (sI s 143 (jN (x4 + (-1))))), g6, g7, g8]) (st' := [.int ((128 * x2) + x3), .int (1024 + (sI s 143 (jN (x4 + (-1))))), .ref 121]) rfl ?_
      obtain ⟨s9, hc8, h⟩ := bu_so h
      have hq7 : Q 2 sio tt cc d 223 0 [some (.ref 121), some (.int (1024 + (sI s 143 (jN (x4 + (-1)))))), some (.int ((128 * x2) + x3))] [] s (.inl none, s9) := dt223 (by omega) hl  hc8
      refine Q.callV (gC_vi zm222 (show zM222.2.2.2.2.2[26]? = some (43, 3, .invokevirtual 297, [0, 223, 2, 9]) from rfl) zm223 (hl.lt (a := 121) (by decide)) (hl.T (a := 121) (p := (9, 45)) 43 rfl rfl) rfl (show aCr 2 121 [.int ((128 * x2) + x3), .int (1024 + (sI s 143 (jN (x4 + (-1))))), .ref 121] 3 = some ([some (.ref 121), some (.int (1024 + (sI s 143 (jN (x4 + (-1)))))), some (.int ((128 * x2) + x3))], []) from rfl)) hq7 ?_
      refine Q.run zm222 2 (i' := 29) (ls' := [some (.ref 121), some (.int x1), some (.int x2), some (.int (x3 + 1)), some (.int (x4 + (-1))), some (.int (sI s 143 (jN (x4 + (-1))))), g6, g7, g8]) (st' := [.ref 121]) rfl ?_
      refine Q.map (A.gf (gI_of zm222 (e := (50, 3, .getfield 32, [9, 10])) rfl) (hq7.1.lt (a := 121) (by decide)) (hq7.1.T (a := 121) (p := (9, 45)) 43 rfl rfl) (by decide) (hq7.1.R 30 rfl)) ?_
      refine Q.run zm222 3 (i' := 33) (ls' := [some (.ref 121), some (.int x1), some (.int x2), some (.int (x3 + 1)), some (.int (x4 + (-1))), some (.int (sI s 143 (jN (x4 + (-1))))), g6, g7, g8]) (st' := [.int (1024 + (sI s 143 (jN (x4 + (-1))))), .ref 129]) rfl ?_
      obtain ⟨hc10, h⟩ := ite_so h
      refine Q.map (A.ia (gI_of zm222 (e := (59, 1, .iaload, [])) rfl) (hq7.1.lt (a := 129) (by decide)) (hq7.1.T (a := 129) (p := (100, 1152)) 51 rfl rfl) hc10) ?_
      refine Q.run zm222 8 (i' := 42) (ls' := [some (.ref 121), some (.int x1), some (.int x2), some (.int (x3 + 1)), some (.int (x4 + (-1))), some (.int (sI s 143 (jN (x4 + (-1))))), some (.int (sI s9 129 (jN (1024 + (sI s 143 (jN (x4 + (-1)))))))), some (.int (((x4 + (-1)) + (sI s9 129 (jN (1024 + (sI s 143 (jN (x4 + (-1)))))))) - 1)), g8]) (st' := [.ref 121]) rfl ?_
      refine Q.map (A.gf (gI_of zm222 (e := (72, 3, .getfield 65, [9, 22])) rfl) (hq7.1.lt (a := 121) (by decide)) (hq7.1.T (a := 121) (p := (9, 45)) 43 rfl rfl) (by decide) (hq7.1.R 41 rfl)) ?_
      refine Q.run zm222 1 (i' := 44) (ls' := [some (.ref 121), some (.int x1), some (.int x2), some (.int (x3 + 1)), some (.int (x4 + (-1))), some (.int (sI s 143 (jN (x4 + (-1))))), some (.int (sI s9 129 (jN (1024 + (sI s 143 (jN (x4 + (-1)))))))), some (.int (((x4 + (-1)) + (sI s9 129 (jN (1024 + (sI s 143 (jN (x4 + (-1)))))))) - 1)), g8]) (st' := [.int (sI s 143 (jN (x4 + (-1)))), .ref 140]) rfl ?_
      obtain ⟨hc11, h⟩ := ite_so h
      refine Q.map (A.ia (gI_of zm222 (e := (77, 1, .iaload, [])) rfl) (hq7.1.lt (a := 140) (by decide)) (hq7.1.T (a := 140) (p := (100, 128)) 62 rfl rfl) hc11) ?_
      refine Q.run zm222 1 (i' := 46) (ls' := [some (.ref 121), some (.int x1), some (.int x2), some (.int (x3 + 1)), some (.int (x4 + (-1))), some (.int (sI s 143 (jN (x4 + (-1))))), some (.int (sI s9 129 (jN (1024 + (sI s 143 (jN (x4 + (-1)))))))), some (.int (((x4 + (-1)) + (sI s9 129 (jN (1024 + (sI s 143 (jN (x4 + (-1)))))))) - 1)), some (.int (sI s9 140 (jN (sI s 143 (jN (x4 + (-1)))))))]) (st' := []) rfl ?_
      exact dt222_46 hd ih _ hq7.1  h
def dm222 (x1 : Int32) (x2 : Int32) (s : aS) : Option (aS) :=
  if aB 0 128 then
    nx (wI s 143 (jN 0) x1) fun s2 =>
    dm222_9 5000 x2 0 1 s2
  else none
set_option maxRecDepth 100000 in
theorem dt222 {sio : Bool} {tt : Nat} {cc : Nat → Nat → Int32} {d : Nat} (hd : 1 ≤ d) {x1 : Int32} {x2 : Int32} {s : aS} (hl : Ly tt cc s) {o : aS} (h : dm222  x1 x2 s = some o) : Q 2 sio tt cc d 222 0 [some (.ref 121), some (.int x1), some (.int x2), none, none, none, none, none, none] [] s (.inl none, o) := by
  unfold dm222 at h
  obtain ⟨d, rfl⟩ : ∃ e, d = e + 1 := ⟨d - 1, by omega⟩
  refine Q.run zm222 5 (i' := 5) (ls' := [some (.ref 121), some (.int x1), some (.int x2), some (.int 0), some (.int 1), none, none, none, none]) (st' := [.ref 121]) rfl ?_
  refine Q.map (A.gf (gI_of zm222 (e := (6, 3, .getfield 74, [9, 25])) rfl) (hl.lt (a := 121) (by decide)) (hl.T (a := 121) (p := (9, 45)) 43 rfl rfl) (by decide) (hl.R 44 rfl)) ?_
  refine Q.run zm222 2 (i' := 8) (ls' := [some (.ref 121), some (.int x1), some (.int x2), some (.int 0), some (.int 1), none, none, none, none]) (st' := [.int x1, .int 0, .ref 143]) rfl ?_
  obtain ⟨hc1, h⟩ := ite_so h
  obtain ⟨s2, hs3, h⟩ := nx_so h
  refine Q.is hs3 rfl (gI_of zm222 (e := (11, 1, .iastore, [])) rfl) (hl.lt (a := 143) (by decide)) (by decide) (hl.T (a := 143) (p := (100, 128)) 65 rfl rfl) hc1 ?_
  have hl4 : Ly tt cc s2 := by rw [hs3]; exact hl.wId (by decide)
  exact dt222_9 hd _ hl4  h
/-! 184 FormulaTreesModel.read(II)I -/
set_option maxRecDepth 100000 in
theorem zm184 : zP[184]? = some zM184 := rfl
def dm184_101 (x1 : Int32) (x2 : Int32) (s : aS) : Option (Int32 × aS) :=
  if (sI s 121 27) = 0 then
    bu (dm190 0 s) fun s4 =>
    if aB 0 130 then
      bu (dm222 (sI s4 144 (jN 0)) x1 s4) fun s8 =>
      if aB x1 8 then
        nx (wI s8 125 (jN x1) ((1 : Int32) &&& 1)) fun s10 =>
        if aB x1 8 then
          nx (wI s10 126 (jN x1) x2) fun s14 =>
          some ((-1), s14)
        else none
      else none
    else none
  else
    some (sI s 121 26, s)
set_option maxRecDepth 100000 in
theorem dt184_101 {sio : Bool} {tt : Nat} {cc : Nat → Nat → Int32} {d : Nat} (hd : 7 ≤ d) {x1 : Int32} {x2 : Int32} {x3 : Int32} {s : aS} (hl : Ly tt cc s) {o : Int32 × aS} (h : dm184_101  x1 x2 s = some o) : Q 2 sio tt cc d 184 101 [some (.ref 121), some (.int x1), some (.int x2), some (.int x3)] [] s (.inl (some (.int o.1)), o.2) := by
  unfold dm184_101 at h
  obtain ⟨d, rfl⟩ : ∃ e, d = e + 1 := ⟨d - 1, by omega⟩
  refine Q.run zm184 1 (i' := 102) (ls' := [some (.ref 121), some (.int x1), some (.int x2), some (.int x3)]) (st' := [.ref 121]) rfl ?_
  refine Q.map (A.gf (gI_of zm184 (e := (196, 3, .getfield 134, [9, 27])) rfl) (hl.lt (a := 121) (by decide)) (hl.T (a := 121) (p := (9, 45)) 43 rfl rfl) (by decide) rfl) ?_
  by_cases hc1 : (sI s 121 27) = 0
  · rw [if_pos hc1] at h
    refine Q.map (A.zT (gI_of zm184 (e := (199, 3, .ifCond .eq 8, [107])) rfl) (decide_eq_true hc1)) ?_
    refine Q.run zm184 2 (i' := 109) (ls' := [some (.ref 121), some (.int x1), some (.int x2), some (.int x3)]) (st' := [.int 0, .ref 121]) rfl ?_
    obtain ⟨s4, hc3, h⟩ := bu_so h
    have hq2 : Q 2 sio tt cc d 190 0 [some (.ref 121), some (.int 0), none, none] [] s (.inl none, s4) := dt190 (by omega) hl  hc3
    refine Q.callV (gC_vi zm184 (show zM184.2.2.2.2.2[109]? = some (209, 3, .invokevirtual 282, [0, 190, 1, 9]) from rfl) zm190 (hl.lt (a := 121) (by decide)) (hl.T (a := 121) (p := (9, 45)) 43 rfl rfl) rfl (show aCr 1 121 [.int 0, .ref 121] 4 = some ([some (.ref 121), some (.int 0), none, none], []) from rfl)) hq2 ?_
    refine Q.run zm184 2 (i' := 112) (ls' := [some (.ref 121), some (.int x1), some (.int x2), some (.int x3)]) (st' := [.ref 121, .ref 121]) rfl ?_
    refine Q.map (A.gf (gI_of zm184 (e := (214, 3, .getfield 77, [9, 28])) rfl) (hq2.1.lt (a := 121) (by decide)) (hq2.1.T (a := 121) (p := (9, 45)) 43 rfl rfl) (by decide) (hq2.1.R 45 rfl)) ?_
    refine Q.run zm184 1 (i' := 114) (ls' := [some (.ref 121), some (.int x1), some (.int x2), some (.int x3)]) (st' := [.int 0, .ref 144, .ref 121]) rfl ?_
    obtain ⟨hc5, h⟩ := ite_so h
    refine Q.map (A.ia (gI_of zm184 (e := (218, 1, .iaload, [])) rfl) (hq2.1.lt (a := 144) (by decide)) (hq2.1.T (a := 144) (p := (100, 130)) 66 rfl rfl) hc5) ?_
    refine Q.run zm184 1 (i' := 116) (ls' := [some (.ref 121), some (.int x1), some (.int x2), some (.int x3)]) (st' := [.int x1, .int (sI s4 144 (jN 0)), .ref 121]) rfl ?_
    obtain ⟨s8, hc7, h⟩ := bu_so h
    have hq6 : Q 2 sio tt cc d 222 0 [some (.ref 121), some (.int (sI s4 144 (jN 0))), some (.int x1), none, none, none, none, none, none] [] s4 (.inl none, s8) := dt222 (by omega) hq2.1  hc7
    refine Q.callV (gC_vi zm184 (show zM184.2.2.2.2.2[116]? = some (220, 3, .invokevirtual 306, [0, 222, 2, 9]) from rfl) zm222 (hq2.1.lt (a := 121) (by decide)) (hq2.1.T (a := 121) (p := (9, 45)) 43 rfl rfl) rfl (show aCr 2 121 [.int x1, .int (sI s4 144 (jN 0)), .ref 121] 9 = some ([some (.ref 121), some (.int (sI s4 144 (jN 0))), some (.int x1), none, none, none, none, none, none], []) from rfl)) hq6 ?_
    refine Q.run zm184 1 (i' := 118) (ls' := [some (.ref 121), some (.int x1), some (.int x2), some (.int x3)]) (st' := [.ref 121]) rfl ?_
    refine Q.map (A.gf (gI_of zm184 (e := (224, 3, .getfield 19, [9, 6])) rfl) (hq6.1.lt (a := 121) (by decide)) (hq6.1.T (a := 121) (p := (9, 45)) 43 rfl rfl) (by decide) (hq6.1.R 26 rfl)) ?_
    refine Q.run zm184 2 (i' := 121) (ls' := [some (.ref 121), some (.int x1), some (.int x2), some (.int x3)]) (st' := [.int 1, .int x1, .ref 125]) rfl ?_
    obtain ⟨hc9, h⟩ := ite_so h
    obtain ⟨s10, hs11, h⟩ := nx_so h
    refine Q.bs hs11 rfl (gI_of zm184 (e := (229, 1, .bastore, [])) rfl) (hq6.1.lt (a := 125) (by decide)) (by decide) (hq6.1.T (a := 125) (p := (103, 8)) 47 rfl rfl) hc9 ?_
    have hl12 : Ly tt cc s10 := by rw [hs11]; exact hq6.1.wId (by decide)
    refine Q.run zm184 1 (i' := 123) (ls' := [some (.ref 121), some (.int x1), some (.int x2), some (.int x3)]) (st' := [.ref 121]) rfl ?_
    refine Q.map (A.gf (gI_of zm184 (e := (231, 3, .getfield 23, [9, 7])) rfl) (hl12.lt (a := 121) (by decide)) (hl12.T (a := 121) (p := (9, 45)) 43 rfl rfl) (by decide) (hl12.R 27 rfl)) ?_
    refine Q.run zm184 2 (i' := 126) (ls' := [some (.ref 121), some (.int x1), some (.int x2), some (.int x3)]) (st' := [.int x2, .int x1, .ref 126]) rfl ?_
    obtain ⟨hc13, h⟩ := ite_so h
    obtain ⟨s14, hs15, h⟩ := nx_so h
    refine Q.is hs15 rfl (gI_of zm184 (e := (236, 1, .iastore, [])) rfl) (hl12.lt (a := 126) (by decide)) (by decide) (hl12.T (a := 126) (p := (100, 8)) 48 rfl rfl) hc13 ?_
    have hl16 : Ly tt cc s14 := by rw [hs15]; exact hl12.wId (by decide)
    refine Q.run zm184 1 (i' := 128) (ls' := [some (.ref 121), some (.int x1), some (.int x2), some (.int x3)]) (st' := [.int (-1)]) rfl ?_
    cases h
    exact Q.ret (A.ri zm184 (show zM184.2.2.2.2.2[128]? = some (238, 1, .ireturn, []) from rfl) rfl rfl) hl16
  · rw [if_neg hc1] at h
    refine Q.map (A.zF (gI_of zm184 (e := (199, 3, .ifCond .eq 8, [107])) rfl) (fun q => hc1 (of_decide_eq_true q))) ?_
    refine Q.run zm184 1 (i' := 105) (ls' := [some (.ref 121), some (.int x1), some (.int x2), some (.int x3)]) (st' := [.ref 121]) rfl ?_
    refine Q.map (A.gf (gI_of zm184 (e := (203, 3, .getfield 138, [9, 26])) rfl) (hl.lt (a := 121) (by decide)) (hl.T (a := 121) (p := (9, 45)) 43 rfl rfl) (by decide) rfl) ?_
    cases h
    exact Q.ret (A.ri zm184 (show zM184.2.2.2.2.2[106]? = some (206, 1, .ireturn, []) from rfl) rfl rfl) hl
def dm184_83 (k48 : Int32 → Int32 → Int32 → aS → Option (Int32 × aS)) (x1 : Int32) (x2 : Int32) (x3 : Int32) (s : aS) : Option (Int32 × aS) :=
  if x3 = 0 then
    k48 x1 x2 x3 s
  else
    bu (dm216 s) fun s4 =>
    k48 x1 x2 x3 s4
set_option maxRecDepth 100000 in
theorem dt184_83 {sio : Bool} {tt : Nat} {cc : Nat → Nat → Int32} {d : Nat} (hd : 7 ≤ d) {k48 : Int32 → Int32 → Int32 → aS → Option (Int32 × aS)} (hk48 : ∀ {x1 : Int32} {x2 : Int32} {x3 : Int32} {s : aS}, Ly tt cc s → ∀ {o : Int32 × aS}, k48 x1 x2 x3 s = some o → Q 2 sio tt cc d 184 48 [some (.ref 121), some (.int x1), some (.int x2), some (.int x3)] [] s (.inl (some (.int o.1)), o.2)) {x1 : Int32} {x2 : Int32} {x3 : Int32} {s : aS} (hl : Ly tt cc s) {o : Int32 × aS} (h : dm184_83 k48 x1 x2 x3 s = some o) : Q 2 sio tt cc d 184 83 [some (.ref 121), some (.int x1), some (.int x2), some (.int x3)] [] s (.inl (some (.int o.1)), o.2) := by
  unfold dm184_83 at h
  obtain ⟨d, rfl⟩ : ∃ e, d = e + 1 := ⟨d - 1, by omega⟩
  refine Q.run zm184 1 (i' := 84) (ls' := [some (.ref 121), some (.int x1), some (.int x2), some (.int x3)]) (st' := [.int x3]) rfl ?_
  by_cases hc1 : x3 = 0
  · rw [if_pos hc1] at h
    refine Q.map (A.zT (gI_of zm184 (e := (156, 3, .ifCond .eq (-73), [48])) rfl) (decide_eq_true hc1)) ?_
    exact hk48 hl  h
  · rw [if_neg hc1] at h
    refine Q.map (A.zF (gI_of zm184 (e := (156, 3, .ifCond .eq (-73), [48])) rfl) (fun q => hc1 (of_decide_eq_true q))) ?_
    refine Q.run zm184 1 (i' := 86) (ls' := [some (.ref 121), some (.int x1), some (.int x2), some (.int x3)]) (st' := [.ref 121]) rfl ?_
    obtain ⟨s4, hc3, h⟩ := bu_so h
    have hq2 : Q 2 sio tt cc d 216 0 [some (.ref 121), none, none, none, none] [] s (.inl none, s4) := dt216 (by omega) hl  hc3
    refine Q.callV (gC_vi zm184 (show zM184.2.2.2.2.2[86]? = some (160, 3, .invokevirtual 303, [0, 216, 0, 9]) from rfl) zm216 (hl.lt (a := 121) (by decide)) (hl.T (a := 121) (p := (9, 45)) 43 rfl rfl) rfl (show aCr 0 121 [.ref 121] 5 = some ([some (.ref 121), none, none, none, none], []) from rfl)) hq2 ?_
    refine Q.run zm184 1 (i' := 48) (ls' := [some (.ref 121), some (.int x1), some (.int x2), some (.int x3)]) (st' := []) rfl ?_
    exact hk48 hq2.1  h
def dm184_97 (x1 : Int32) (x2 : Int32) (s : aS) : Option (Int32 × aS) :=
  bu (dm186 (sI s 121 1) s) fun s3 =>
  dm184_101 x1 x2 s3
set_option maxRecDepth 100000 in
theorem dt184_97 {sio : Bool} {tt : Nat} {cc : Nat → Nat → Int32} {d : Nat} (hd : 7 ≤ d) {x1 : Int32} {x2 : Int32} {x3 : Int32} {s : aS} (hl : Ly tt cc s) {o : Int32 × aS} (h : dm184_97  x1 x2 s = some o) : Q 2 sio tt cc d 184 97 [some (.ref 121), some (.int x1), some (.int x2), some (.int x3)] [] s (.inl (some (.int o.1)), o.2) := by
  unfold dm184_97 at h
  obtain ⟨d, rfl⟩ : ∃ e, d = e + 1 := ⟨d - 1, by omega⟩
  refine Q.run zm184 2 (i' := 99) (ls' := [some (.ref 121), some (.int x1), some (.int x2), some (.int x3)]) (st' := [.ref 121, .ref 121]) rfl ?_
  refine Q.map (A.gf (gI_of zm184 (e := (189, 3, .getfield 103, [9, 1])) rfl) (hl.lt (a := 121) (by decide)) (hl.T (a := 121) (p := (9, 45)) 43 rfl rfl) (by decide) rfl) ?_
  obtain ⟨s3, hc2, h⟩ := bu_so h
  have hq1 : Q 2 sio tt cc d 186 0 [some (.ref 121), some (.int (sI s 121 1))] [] s (.inl none, s3) := dt186 (by omega) hl  hc2
  refine Q.callV (gC_vi zm184 (show zM184.2.2.2.2.2[100]? = some (192, 3, .invokevirtual 164, [0, 186, 1, 9]) from rfl) zm186 (hl.lt (a := 121) (by decide)) (hl.T (a := 121) (p := (9, 45)) 43 rfl rfl) rfl (show aCr 1 121 [.int (sI s 121 1), .ref 121] 2 = some ([some (.ref 121), some (.int (sI s 121 1))], []) from rfl)) hq1 ?_
  exact dt184_101 hd hq1.1  h
def dm184_74 (k48 : Int32 → Int32 → Int32 → aS → Option (Int32 × aS)) (x1 : Int32) (x2 : Int32) (y0 : Int32) (s : aS) : Option (Int32 × aS) :=
  if y0 = 0 then
    dm184_83 k48 x1 x2 y0 s
  else
    if (sI s 121 36) = 0 then
      dm184_83 k48 x1 x2 y0 s
    else
      bu (dm185 s) fun s5 =>
      k48 x1 x2 y0 s5
set_option maxRecDepth 100000 in
theorem dt184_74 {sio : Bool} {tt : Nat} {cc : Nat → Nat → Int32} {d : Nat} (hd : 7 ≤ d) {k48 : Int32 → Int32 → Int32 → aS → Option (Int32 × aS)} (hk48 : ∀ {x1 : Int32} {x2 : Int32} {x3 : Int32} {s : aS}, Ly tt cc s → ∀ {o : Int32 × aS}, k48 x1 x2 x3 s = some o → Q 2 sio tt cc d 184 48 [some (.ref 121), some (.int x1), some (.int x2), some (.int x3)] [] s (.inl (some (.int o.1)), o.2)) {x1 : Int32} {x2 : Int32} {y0 : Int32} {x3 : Int32} {s : aS} (hl : Ly tt cc s) {o : Int32 × aS} (h : dm184_74 k48 x1 x2 y0 s = some o) : Q 2 sio tt cc d 184 74 [some (.ref 121), some (.int x1), some (.int x2), some (.int x3)] [.int y0] s (.inl (some (.int o.1)), o.2) := by
  unfold dm184_74 at h
  obtain ⟨d, rfl⟩ : ∃ e, d = e + 1 := ⟨d - 1, by omega⟩
  refine Q.run zm184 2 (i' := 76) (ls' := [some (.ref 121), some (.int x1), some (.int x2), some (.int y0)]) (st' := [.int y0]) rfl ?_
  by_cases hc1 : y0 = 0
  · rw [if_pos hc1] at h
    refine Q.map (A.zT (gI_of zm184 (e := (138, 3, .ifCond .eq 17, [83])) rfl) (decide_eq_true hc1)) ?_
    exact dt184_83 hd hk48 hl  h
  · rw [if_neg hc1] at h
    refine Q.map (A.zF (gI_of zm184 (e := (138, 3, .ifCond .eq 17, [83])) rfl) (fun q => hc1 (of_decide_eq_true q))) ?_
    refine Q.run zm184 1 (i' := 78) (ls' := [some (.ref 121), some (.int x1), some (.int x2), some (.int y0)]) (st' := [.ref 121]) rfl ?_
    refine Q.map (A.gf (gI_of zm184 (e := (142, 3, .getfield 246, [9, 36])) rfl) (hl.lt (a := 121) (by decide)) (hl.T (a := 121) (p := (9, 45)) 43 rfl rfl) (by decide) rfl) ?_
    by_cases hc2 : (sI s 121 36) = 0
    · rw [if_pos hc2] at h
      refine Q.map (A.zT (gI_of zm184 (e := (145, 3, .ifCond .eq 10, [83])) rfl) (decide_eq_true hc2)) ?_
      exact dt184_83 hd hk48 hl  h
    · rw [if_neg hc2] at h
      refine Q.map (A.zF (gI_of zm184 (e := (145, 3, .ifCond .eq 10, [83])) rfl) (fun q => hc2 (of_decide_eq_true q))) ?_
      refine Q.run zm184 1 (i' := 81) (ls' := [some (.ref 121), some (.int x1), some (.int x2), some (.int y0)]) (st' := [.ref 121]) rfl ?_
      obtain ⟨s5, hc4, h⟩ := bu_so h
      have hq3 : Q 2 sio tt cc d 185 0 [some (.ref 121), none] [] s (.inl none, s5) := dt185 (by omega) hl  hc4
      refine Q.callV (gC_vi zm184 (show zM184.2.2.2.2.2[81]? = some (149, 3, .invokevirtual 300, [0, 185, 0, 9]) from rfl) zm185 (hl.lt (a := 121) (by decide)) (hl.T (a := 121) (p := (9, 45)) 43 rfl rfl) rfl (show aCr 0 121 [.ref 121] 2 = some ([some (.ref 121), none], []) from rfl)) hq3 ?_
      refine Q.run zm184 1 (i' := 48) (ls' := [some (.ref 121), some (.int x1), some (.int x2), some (.int y0)]) (st' := []) rfl ?_
      exact hk48 hq3.1  h
def dm184_88 (x1 : Int32) (x2 : Int32) (s : aS) : Option (Int32 × aS) :=
  if (sI s 121 27) = 0 then
    if (sI s 121 36) = 0 then
      if (sI s 121 33) ≤ 0 then
        dm184_101 x1 x2 s
      else
        dm184_97 x1 x2 s
    else
      dm184_97 x1 x2 s
  else
    dm184_101 x1 x2 s
set_option maxRecDepth 100000 in
theorem dt184_88 {sio : Bool} {tt : Nat} {cc : Nat → Nat → Int32} {d : Nat} (hd : 7 ≤ d) {x1 : Int32} {x2 : Int32} {x3 : Int32} {s : aS} (hl : Ly tt cc s) {o : Int32 × aS} (h : dm184_88  x1 x2 s = some o) : Q 2 sio tt cc d 184 88 [some (.ref 121), some (.int x1), some (.int x2), some (.int x3)] [] s (.inl (some (.int o.1)), o.2) := by
  unfold dm184_88 at h
  obtain ⟨d, rfl⟩ : ∃ e, d = e + 1 := ⟨d - 1, by omega⟩
  refine Q.run zm184 1 (i' := 89) (ls' := [some (.ref 121), some (.int x1), some (.int x2), some (.int x3)]) (st' := [.ref 121]) rfl ?_
  refine Q.map (A.gf (gI_of zm184 (e := (167, 3, .getfield 134, [9, 27])) rfl) (hl.lt (a := 121) (by decide)) (hl.T (a := 121) (p := (9, 45)) 43 rfl rfl) (by decide) rfl) ?_
  by_cases hc1 : (sI s 121 27) = 0
  · rw [if_pos hc1] at h
    refine Q.map (A.zF (gI_of zm184 (e := (170, 3, .ifCond .ne 25, [101])) rfl) (fun q => of_decide_eq_true q hc1)) ?_
    refine Q.run zm184 1 (i' := 92) (ls' := [some (.ref 121), some (.int x1), some (.int x2), some (.int x3)]) (st' := [.ref 121]) rfl ?_
    refine Q.map (A.gf (gI_of zm184 (e := (174, 3, .getfield 246, [9, 36])) rfl) (hl.lt (a := 121) (by decide)) (hl.T (a := 121) (p := (9, 45)) 43 rfl rfl) (by decide) rfl) ?_
    by_cases hc2 : (sI s 121 36) = 0
    · rw [if_pos hc2] at h
      refine Q.map (A.zF (gI_of zm184 (e := (177, 3, .ifCond .ne 10, [97])) rfl) (fun q => of_decide_eq_true q hc2)) ?_
      refine Q.run zm184 1 (i' := 95) (ls' := [some (.ref 121), some (.int x1), some (.int x2), some (.int x3)]) (st' := [.ref 121]) rfl ?_
      refine Q.map (A.gf (gI_of zm184 (e := (181, 3, .getfield 237, [9, 33])) rfl) (hl.lt (a := 121) (by decide)) (hl.T (a := 121) (p := (9, 45)) 43 rfl rfl) (by decide) rfl) ?_
      by_cases hc3 : (sI s 121 33) ≤ 0
      · rw [if_pos hc3] at h
        refine Q.map (A.zT (gI_of zm184 (e := (184, 3, .ifCond .le 11, [101])) rfl) (decide_eq_true hc3)) ?_
        exact dt184_101 hd hl  h
      · rw [if_neg hc3] at h
        refine Q.map (A.zF (gI_of zm184 (e := (184, 3, .ifCond .le 11, [101])) rfl) (fun q => hc3 (of_decide_eq_true q))) ?_
        exact dt184_97 hd hl  h
    · rw [if_neg hc2] at h
      refine Q.map (A.zT (gI_of zm184 (e := (177, 3, .ifCond .ne 10, [97])) rfl) (decide_eq_true hc2)) ?_
      exact dt184_97 hd hl  h
  · rw [if_neg hc1] at h
    refine Q.map (A.zT (gI_of zm184 (e := (170, 3, .ifCond .ne 25, [101])) rfl) (decide_eq_true hc1)) ?_
    exact dt184_101 hd hl  h
def dm184_53 (k48 : Int32 → Int32 → Int32 → aS → Option (Int32 × aS)) : Nat → Int32 → Int32 → aS → Option (Int32 × aS)
  | 0, _, _, _ => none
  | n + 1, x1, x2, s =>
    bu (dm176 (sI s 121 26) s) fun r3 =>
    if r3 = 32 then
      nx (wI s 121 26 ((sI s 121 26) + 1)) fun s5 =>
      dm184_53 k48 n x1 x2 s5
    else
      if (sI s 121 1) ≤ (sI s 121 26) then
        dm184_74 k48 x1 x2 0 s
      else
        dm184_74 k48 x1 x2 1 s
set_option maxRecDepth 100000 in
theorem dt184_53 {sio : Bool} {tt : Nat} {cc : Nat → Nat → Int32} {d : Nat} (hd : 7 ≤ d) {k48 : Int32 → Int32 → Int32 → aS → Option (Int32 × aS)} (hk48 : ∀ {x1 : Int32} {x2 : Int32} {x3 : Int32} {s : aS}, Ly tt cc s → ∀ {o : Int32 × aS}, k48 x1 x2 x3 s = some o → Q 2 sio tt cc d 184 48 [some (.ref 121), some (.int x1), some (.int x2), some (.int x3)] [] s (.inl (some (.int o.1)), o.2)) : ∀ (n : Nat) {x1 : Int32} {x2 : Int32} {x3 : Int32} {s : aS} (_ : Ly tt cc s) {o : Int32 × aS} (_ : dm184_53 k48 n x1 x2 s = some o), Q 2 sio tt cc d 184 53 [some (.ref 121), some (.int x1), some (.int x2), some (.int x3)] [] s (.inl (some (.int o.1)), o.2) := by
  obtain ⟨d, rfl⟩ : ∃ e, d = e + 1 := ⟨d - 1, by omega⟩
  intro n
  induction n with
  | zero => intro x1 x2 x3 s hl o h; rw [dm184_53] at h; cases h
  | succ n ih =>
    intro x1 x2 x3 s hl o h
    rw [dm184_53] at h
    refine Q.run zm184 2 (i' := 55) (ls' := [some (.ref 121), some (.int x1), some (.int x2), some (.int x3)]) (st' := [.ref 121, .ref 121]) rfl ?_
    refine Q.map (A.gf (gI_of zm184 (e := (96, 3, .getfield 138, [9, 26])) rfl) (hl.lt (a := 121) (by decide)) (hl.T (a := 121) (p := (9, 45)) 43 rfl rfl) (by decide) rfl) ?_
    obtain ⟨r3, hc2, h⟩ := bu_so h
    have hq1 : Q 2 sio tt cc d 176 0 [some (.ref 121), some (.int (sI s 121 26))] [] s (.inl (some (.int r3)), s) := dt176 (by omega) hl  hc2
    refine Q.callI (gC_vi zm184 (show zM184.2.2.2.2.2[56]? = some (99, 3, .invokevirtual 113, [0, 176, 1, 9]) from rfl) zm176 (hl.lt (a := 121) (by decide)) (hl.T (a := 121) (p := (9, 45)) 43 rfl rfl) rfl (show aCr 1 121 [.int (sI s 121 26), .ref 121] 2 = some ([some (.ref 121), some (.int (sI s 121 26))], []) from rfl)) hq1 ?_
    refine Q.run zm184 1 (i' := 58) (ls' := [some (.ref 121), some (.int x1), some (.int x2), some (.int x3)]) (st' := [.int 32, .int r3]) rfl ?_
    by_cases hc4 : r3 = 32
    · rw [if_pos hc4] at h
      refine Q.map (A.bF (gI_of zm184 (e := (104, 3, .if_icmp .ne 16, [66])) rfl) (fun q => of_decide_eq_true q hc4)) ?_
      refine Q.run zm184 2 (i' := 61) (ls' := [some (.ref 121), some (.int x1), some (.int x2), some (.int x3)]) (st' := [.ref 121, .ref 121]) rfl ?_
      refine Q.map (A.gf (gI_of zm184 (e := (109, 3, .getfield 138, [9, 26])) rfl) (hl.lt (a := 121) (by decide)) (hl.T (a := 121) (p := (9, 45)) 43 rfl rfl) (by decide) rfl) ?_
      refine Q.run zm184 2 (i' := 64) (ls' := [some (.ref 121), some (.int x1), some (.int x2), some (.int x3)]) (st' := [.int ((sI s 121 26) + 1), .ref 121]) rfl ?_
      obtain ⟨s5, hs6, h⟩ := nx_so h
      refine Q.pf hs6 rfl (gI_of zm184 (e := (114, 3, .putfield 138, [9, 26, 0])) rfl) (hl.lt (a := 121) (by decide)) (by decide) (hl.T (a := 121) (p := (9, 45)) 43 rfl rfl) (by decide) rfl rfl ?_
      have hl7 : Ly tt cc s5 := by rw [hs6]; exact hl.wId (by decide)
      refine Q.run zm184 1 (i' := 53) (ls' := [some (.ref 121), some (.int x1), some (.int x2), some (.int x3)]) (st' := []) rfl ?_
      exact ih hl7  h
    · rw [if_neg hc4] at h
      refine Q.map (A.bT (gI_of zm184 (e := (104, 3, .if_icmp .ne 16, [66])) rfl) (decide_eq_true hc4)) ?_
      refine Q.run zm184 1 (i' := 67) (ls' := [some (.ref 121), some (.int x1), some (.int x2), some (.int x3)]) (st' := [.ref 121]) rfl ?_
      refine Q.map (A.gf (gI_of zm184 (e := (121, 3, .getfield 138, [9, 26])) rfl) (hl.lt (a := 121) (by decide)) (hl.T (a := 121) (p := (9, 45)) 43 rfl rfl) (by decide) rfl) ?_
      refine Q.run zm184 1 (i' := 69) (ls' := [some (.ref 121), some (.int x1), some (.int x2), some (.int x3)]) (st' := [.ref 121, .int (sI s 121 26)]) rfl ?_
      refine Q.map (A.gf (gI_of zm184 (e := (125, 3, .getfield 103, [9, 1])) rfl) (hl.lt (a := 121) (by decide)) (hl.T (a := 121) (p := (9, 45)) 43 rfl rfl) (by decide) rfl) ?_
      by_cases hc8 : (sI s 121 1) ≤ (sI s 121 26)
      · rw [if_pos hc8] at h
        refine Q.map (A.bT (gI_of zm184 (e := (128, 3, .if_icmp .ge 7, [73])) rfl) (decide_eq_true hc8)) ?_
        refine Q.run zm184 1 (i' := 74) (ls' := [some (.ref 121), some (.int x1), some (.int x2), some (.int x3)]) (st' := [.int 0]) rfl ?_
        exact dt184_74 hd hk48 hl  h
      · rw [if_neg hc8] at h
        refine Q.map (A.bF (gI_of zm184 (e := (128, 3, .if_icmp .ge 7, [73])) rfl) (fun q => hc8 (of_decide_eq_true q))) ?_
        refine Q.run zm184 2 (i' := 74) (ls' := [some (.ref 121), some (.int x1), some (.int x2), some (.int x3)]) (st' := [.int 1]) rfl ?_
        exact dt184_74 hd hk48 hl  h
def dm184_48 : Nat → Int32 → Int32 → Int32 → aS → Option (Int32 × aS)
  | 0, _, _, _, _ => none
  | n + 1, x1, x2, x3, s =>
    if x3 = 0 then
      dm184_88 x1 x2 s
    else
      if (sI s 121 27) = 0 then
        dm184_53 (dm184_48 n) 5000 x1 x2 s
      else
        dm184_88 x1 x2 s
set_option maxRecDepth 100000 in
theorem dt184_48 {sio : Bool} {tt : Nat} {cc : Nat → Nat → Int32} {d : Nat} (hd : 7 ≤ d) : ∀ (n : Nat) {x1 : Int32} {x2 : Int32} {x3 : Int32} {s : aS} (_ : Ly tt cc s) {o : Int32 × aS} (_ : dm184_48  n x1 x2 x3 s = some o), Q 2 sio tt cc d 184 48 [some (.ref 121), some (.int x1), some (.int x2), some (.int x3)] [] s (.inl (some (.int o.1)), o.2) := by
  obtain ⟨d, rfl⟩ : ∃ e, d = e + 1 := ⟨d - 1, by omega⟩
  intro n
  induction n with
  | zero => intro x1 x2 x3 s hl o h; rw [dm184_48] at h; cases h
  | succ n ih =>
    intro x1 x2 x3 s hl o h
    rw [dm184_48] at h
    refine Q.run zm184 1 (i' := 49) (ls' := [some (.ref 121), some (.int x1), some (.int x2), some (.int x3)]) (st' := [.int x3]) rfl ?_
    by_cases hc1 : x3 = 0
    · rw [if_pos hc1] at h
      refine Q.map (A.zT (gI_of zm184 (e := (84, 3, .ifCond .eq 82, [88])) rfl) (decide_eq_true hc1)) ?_
      exact dt184_88 hd hl  h
    · rw [if_neg hc1] at h
      refine Q.map (A.zF (gI_of zm184 (e := (84, 3, .ifCond .eq 82, [88])) rfl) (fun q => hc1 (of_decide_eq_true q))) ?_
      refine Q.run zm184 1 (i' := 51) (ls' := [some (.ref 121), some (.int x1), some (.int x2), some (.int x3)]) (st' := [.ref 121]) rfl ?_
      refine Q.map (A.gf (gI_of zm184 (e := (88, 3, .getfield 134, [9, 27])) rfl) (hl.lt (a := 121) (by decide)) (hl.T (a := 121) (p := (9, 45)) 43 rfl rfl) (by decide) rfl) ?_
      by_cases hc2 : (sI s 121 27) = 0
      · rw [if_pos hc2] at h
        refine Q.map (A.zF (gI_of zm184 (e := (91, 3, .ifCond .ne 75, [88])) rfl) (fun q => of_decide_eq_true q hc2)) ?_
        exact dt184_53 hd ih _ hl  h
      · rw [if_neg hc2] at h
        refine Q.map (A.zT (gI_of zm184 (e := (91, 3, .ifCond .ne 75, [88])) rfl) (decide_eq_true hc2)) ?_
        exact dt184_88 hd hl  h
def dm184_13 (x1 : Int32) (x2 : Int32) (y1 : Int32) (s : aS) : Option (Int32 × aS) :=
  nx (wI s 121 0 y1) fun s1 =>
  if (sI s1 121 0) ≤ 0 then
    nx (wI s1 121 21 0) fun s5 =>
    nx (wI s5 121 29 0) fun s8 =>
    nx (wI s8 121 32 0) fun s11 =>
    nx (wI s11 121 33 0) fun s14 =>
    nx (wI s14 121 34 (-1)) fun s17 =>
    nx (wI s17 121 35 0) fun s20 =>
    nx (wI s20 121 36 1) fun s23 =>
    nx (wI s23 121 27 0) fun s26 =>
    nx (wI s26 121 26 0) fun s29 =>
    dm184_48 5000 x1 x2 1 s29
  else
    some (0, s1)
set_option maxRecDepth 100000 in
theorem dt184_13 {sio : Bool} {tt : Nat} {cc : Nat → Nat → Int32} {d : Nat} (hd : 7 ≤ d) {x1 : Int32} {x2 : Int32} {y1 : Int32} {s : aS} (hl : Ly tt cc s) {o : Int32 × aS} (h : dm184_13  x1 x2 y1 s = some o) : Q 2 sio tt cc d 184 13 [some (.ref 121), some (.int x1), some (.int x2), none] [.int y1, .ref 121] s (.inl (some (.int o.1)), o.2) := by
  unfold dm184_13 at h
  obtain ⟨d, rfl⟩ : ∃ e, d = e + 1 := ⟨d - 1, by omega⟩
  obtain ⟨s1, hs2, h⟩ := nx_so h
  refine Q.pf hs2 rfl (gI_of zm184 (e := (24, 3, .putfield 89, [9, 0, 0])) rfl) (hl.lt (a := 121) (by decide)) (by decide) (hl.T (a := 121) (p := (9, 45)) 43 rfl rfl) (by decide) rfl rfl ?_
  have hl3 : Ly tt cc s1 := by rw [hs2]; exact hl.wId (by decide)
  refine Q.run zm184 1 (i' := 15) (ls' := [some (.ref 121), some (.int x1), some (.int x2), none]) (st' := [.ref 121]) rfl ?_
  refine Q.map (A.gf (gI_of zm184 (e := (28, 3, .getfield 89, [9, 0])) rfl) (hl3.lt (a := 121) (by decide)) (hl3.T (a := 121) (p := (9, 45)) 43 rfl rfl) (by decide) rfl) ?_
  by_cases hc4 : (sI s1 121 0) ≤ 0
  · rw [if_pos hc4] at h
    refine Q.map (A.zT (gI_of zm184 (e := (31, 3, .ifCond .le 5, [19])) rfl) (decide_eq_true hc4)) ?_
    refine Q.run zm184 2 (i' := 21) (ls' := [some (.ref 121), some (.int x1), some (.int x2), none]) (st' := [.int 0, .ref 121]) rfl ?_
    obtain ⟨s5, hs6, h⟩ := nx_so h
    refine Q.pf hs6 rfl (gI_of zm184 (e := (38, 3, .putfield 141, [9, 21, 0])) rfl) (hl3.lt (a := 121) (by decide)) (by decide) (hl3.T (a := 121) (p := (9, 45)) 43 rfl rfl) (by decide) rfl rfl ?_
    have hl7 : Ly tt cc s5 := by rw [hs6]; exact hl3.wId (by decide)
    refine Q.run zm184 2 (i' := 24) (ls' := [some (.ref 121), some (.int x1), some (.int x2), none]) (st' := [.int 0, .ref 121]) rfl ?_
    obtain ⟨s8, hs9, h⟩ := nx_so h
    refine Q.pf hs9 rfl (gI_of zm184 (e := (43, 3, .putfield 144, [9, 29, 0])) rfl) (hl7.lt (a := 121) (by decide)) (by decide) (hl7.T (a := 121) (p := (9, 45)) 43 rfl rfl) (by decide) rfl rfl ?_
    have hl10 : Ly tt cc s8 := by rw [hs9]; exact hl7.wId (by decide)
    refine Q.run zm184 2 (i' := 27) (ls' := [some (.ref 121), some (.int x1), some (.int x2), none]) (st' := [.int 0, .ref 121]) rfl ?_
    obtain ⟨s11, hs12, h⟩ := nx_so h
    refine Q.pf hs12 rfl (gI_of zm184 (e := (48, 3, .putfield 147, [9, 32, 0])) rfl) (hl10.lt (a := 121) (by decide)) (by decide) (hl10.T (a := 121) (p := (9, 45)) 43 rfl rfl) (by decide) rfl rfl ?_
    have hl13 : Ly tt cc s11 := by rw [hs12]; exact hl10.wId (by decide)
    refine Q.run zm184 2 (i' := 30) (ls' := [some (.ref 121), some (.int x1), some (.int x2), none]) (st' := [.int 0, .ref 121]) rfl ?_
    obtain ⟨s14, hs15, h⟩ := nx_so h
    refine Q.pf hs15 rfl (gI_of zm184 (e := (53, 3, .putfield 237, [9, 33, 0])) rfl) (hl13.lt (a := 121) (by decide)) (by decide) (hl13.T (a := 121) (p := (9, 45)) 43 rfl rfl) (by decide) rfl rfl ?_
    have hl16 : Ly tt cc s14 := by rw [hs15]; exact hl13.wId (by decide)
    refine Q.run zm184 2 (i' := 33) (ls' := [some (.ref 121), some (.int x1), some (.int x2), none]) (st' := [.int (-1), .ref 121]) rfl ?_
    obtain ⟨s17, hs18, h⟩ := nx_so h
    refine Q.pf hs18 rfl (gI_of zm184 (e := (58, 3, .putfield 213, [9, 34, 0])) rfl) (hl16.lt (a := 121) (by decide)) (by decide) (hl16.T (a := 121) (p := (9, 45)) 43 rfl rfl) (by decide) rfl rfl ?_
    have hl19 : Ly tt cc s17 := by rw [hs18]; exact hl16.wId (by decide)
    refine Q.run zm184 2 (i' := 36) (ls' := [some (.ref 121), some (.int x1), some (.int x2), none]) (st' := [.int 0, .ref 121]) rfl ?_
    obtain ⟨s20, hs21, h⟩ := nx_so h
    refine Q.pf hs21 rfl (gI_of zm184 (e := (63, 3, .putfield 243, [9, 35, 0])) rfl) (hl19.lt (a := 121) (by decide)) (by decide) (hl19.T (a := 121) (p := (9, 45)) 43 rfl rfl) (by decide) rfl rfl ?_
    have hl22 : Ly tt cc s20 := by rw [hs21]; exact hl19.wId (by decide)
    refine Q.run zm184 2 (i' := 39) (ls' := [some (.ref 121), some (.int x1), some (.int x2), none]) (st' := [.int 1, .ref 121]) rfl ?_
    obtain ⟨s23, hs24, h⟩ := nx_so h
    refine Q.pf hs24 rfl (gI_of zm184 (e := (68, 3, .putfield 246, [9, 36, 1])) rfl) (hl22.lt (a := 121) (by decide)) (by decide) (hl22.T (a := 121) (p := (9, 45)) 43 rfl rfl) (by decide) rfl rfl ?_
    have hl25 : Ly tt cc s23 := by rw [hs24]; exact hl22.wId (by decide)
    refine Q.run zm184 2 (i' := 42) (ls' := [some (.ref 121), some (.int x1), some (.int x2), none]) (st' := [.int 0, .ref 121]) rfl ?_
    obtain ⟨s26, hs27, h⟩ := nx_so h
    refine Q.pf hs27 rfl (gI_of zm184 (e := (73, 3, .putfield 134, [9, 27, 1])) rfl) (hl25.lt (a := 121) (by decide)) (by decide) (hl25.T (a := 121) (p := (9, 45)) 43 rfl rfl) (by decide) rfl rfl ?_
    have hl28 : Ly tt cc s26 := by rw [hs27]; exact hl25.wId (by decide)
    refine Q.run zm184 2 (i' := 45) (ls' := [some (.ref 121), some (.int x1), some (.int x2), none]) (st' := [.int 0, .ref 121]) rfl ?_
    obtain ⟨s29, hs30, h⟩ := nx_so h
    refine Q.pf hs30 rfl (gI_of zm184 (e := (78, 3, .putfield 138, [9, 26, 0])) rfl) (hl28.lt (a := 121) (by decide)) (by decide) (hl28.T (a := 121) (p := (9, 45)) 43 rfl rfl) (by decide) rfl rfl ?_
    have hl31 : Ly tt cc s29 := by rw [hs30]; exact hl28.wId (by decide)
    refine Q.run zm184 2 (i' := 48) (ls' := [some (.ref 121), some (.int x1), some (.int x2), some (.int 1)]) (st' := []) rfl ?_
    exact dt184_48 hd _ hl31  h
  · rw [if_neg hc4] at h
    refine Q.map (A.zF (gI_of zm184 (e := (31, 3, .ifCond .le 5, [19])) rfl) (fun q => hc4 (of_decide_eq_true q))) ?_
    refine Q.run zm184 1 (i' := 18) (ls' := [some (.ref 121), some (.int x1), some (.int x2), none]) (st' := [.int 0]) rfl ?_
    cases h
    exact Q.ret (A.ri zm184 (show zM184.2.2.2.2.2[18]? = some (35, 1, .ireturn, []) from rfl) rfl rfl) hl3
def dm184_10 (x1 : Int32) (x2 : Int32) (s : aS) : Option (Int32 × aS) :=
  dm184_13 x1 x2 1 s
set_option maxRecDepth 100000 in
theorem dt184_10 {sio : Bool} {tt : Nat} {cc : Nat → Nat → Int32} {d : Nat} (hd : 7 ≤ d) {x1 : Int32} {x2 : Int32} {s : aS} (hl : Ly tt cc s) {o : Int32 × aS} (h : dm184_10  x1 x2 s = some o) : Q 2 sio tt cc d 184 10 [some (.ref 121), some (.int x1), some (.int x2), none] [.ref 121] s (.inl (some (.int o.1)), o.2) := by
  unfold dm184_10 at h
  obtain ⟨d, rfl⟩ : ∃ e, d = e + 1 := ⟨d - 1, by omega⟩
  refine Q.run zm184 2 (i' := 13) (ls' := [some (.ref 121), some (.int x1), some (.int x2), none]) (st' := [.int 1, .ref 121]) rfl ?_
  exact dt184_13 hd hl  h
def dm184 (x1 : Int32) (x2 : Int32) (s : aS) : Option (Int32 × aS) :=
  if x1 < 0 then
    dm184_10 x1 x2 s
  else
    if 7 < x1 then
      dm184_10 x1 x2 s
    else
      bu (dm181 x2 s) fun r5 =>
      if r5 = 0 then
        dm184_13 x1 x2 0 s
      else
        dm184_10 x1 x2 s
set_option maxRecDepth 100000 in
theorem dt184 {sio : Bool} {tt : Nat} {cc : Nat → Nat → Int32} {d : Nat} (hd : 7 ≤ d) {x1 : Int32} {x2 : Int32} {s : aS} (hl : Ly tt cc s) {o : Int32 × aS} (h : dm184  x1 x2 s = some o) : Q 2 sio tt cc d 184 0 [some (.ref 121), some (.int x1), some (.int x2), none] [] s (.inl (some (.int o.1)), o.2) := by
  unfold dm184 at h
  obtain ⟨d, rfl⟩ : ∃ e, d = e + 1 := ⟨d - 1, by omega⟩
  refine Q.run zm184 2 (i' := 2) (ls' := [some (.ref 121), some (.int x1), some (.int x2), none]) (st' := [.int x1, .ref 121]) rfl ?_
  by_cases hc1 : x1 < 0
  · rw [if_pos hc1] at h
    refine Q.map (A.zT (gI_of zm184 (e := (2, 3, .ifCond .lt 17, [10])) rfl) (decide_eq_true hc1)) ?_
    exact dt184_10 hd hl  h
  · rw [if_neg hc1] at h
    refine Q.map (A.zF (gI_of zm184 (e := (2, 3, .ifCond .lt 17, [10])) rfl) (fun q => hc1 (of_decide_eq_true q))) ?_
    refine Q.run zm184 2 (i' := 5) (ls' := [some (.ref 121), some (.int x1), some (.int x2), none]) (st' := [.int 7, .int x1, .ref 121]) rfl ?_
    by_cases hc2 : 7 < x1
    · rw [if_pos hc2] at h
      refine Q.map (A.bT (gI_of zm184 (e := (8, 3, .if_icmp .gt 11, [10])) rfl) (decide_eq_true hc2)) ?_
      exact dt184_10 hd hl  h
    · rw [if_neg hc2] at h
      refine Q.map (A.bF (gI_of zm184 (e := (8, 3, .if_icmp .gt 11, [10])) rfl) (fun q => hc2 (of_decide_eq_true q))) ?_
      refine Q.run zm184 2 (i' := 8) (ls' := [some (.ref 121), some (.int x1), some (.int x2), none]) (st' := [.int x2, .ref 121, .ref 121]) rfl ?_
      obtain ⟨r5, hc4, h⟩ := bu_so h
      have hq3 : Q 2 sio tt cc d 181 0 [some (.ref 121), some (.int x2)] [] s (.inl (some (.int r5)), s) := dt181 (by omega) hl  hc4
      refine Q.callI (gC_vi zm184 (show zM184.2.2.2.2.2[8]? = some (13, 3, .invokevirtual 128, [0, 181, 1, 9]) from rfl) zm181 (hl.lt (a := 121) (by decide)) (hl.T (a := 121) (p := (9, 45)) 43 rfl rfl) rfl (show aCr 1 121 [.int x2, .ref 121, .ref 121] 2 = some ([some (.ref 121), some (.int x2)], [.ref 121]) from rfl)) hq3 ?_
      by_cases hc6 : r5 = 0
      · rw [if_pos hc6] at h
        refine Q.map (A.zT (gI_of zm184 (e := (16, 3, .ifCond .eq 7, [12])) rfl) (decide_eq_true hc6)) ?_
        refine Q.run zm184 1 (i' := 13) (ls' := [some (.ref 121), some (.int x1), some (.int x2), none]) (st' := [.int 0, .ref 121]) rfl ?_
        exact dt184_13 hd hl  h
      · rw [if_neg hc6] at h
        refine Q.map (A.zF (gI_of zm184 (e := (16, 3, .ifCond .eq 7, [12])) rfl) (fun q => hc6 (of_decide_eq_true q))) ?_
        exact dt184_10 hd hl  h
/-! 126 FormulaTrees.isWay(I)Z -/
set_option maxRecDepth 100000 in
theorem zm126 : zP[126]? = some zM126 := rfl
def dm126 (x0 : Int32) : Option (Int32) :=
  if x0 < (-1048576) then
    some 0
  else
    if 1048576 < x0 then
      some 0
    else
      some 1
set_option maxRecDepth 100000 in
theorem dt126 {sio : Bool} {tt : Nat} {cc : Nat → Nat → Int32} {d : Nat} (hd : 0 ≤ d) {x0 : Int32} {s : aS} (hl : Ly tt cc s) {o : Int32} (h : dm126  x0 = some o) : Q 1 sio tt cc d 126 0 [some (.int x0)] [] s (.inl (some (.int o)), s) := by
  unfold dm126 at h
  refine Q.run zm126 2 (i' := 2) (ls' := [some (.int x0)]) (st' := [.int (-1048576), .int x0]) rfl ?_
  by_cases hc1 : x0 < (-1048576)
  · rw [if_pos hc1] at h
    refine Q.map (A.bT (gI_of zm126 (e := (3, 3, .if_icmp .lt 13, [8])) rfl) (decide_eq_true hc1)) ?_
    refine Q.run zm126 1 (i' := 9) (ls' := [some (.int x0)]) (st' := [.int 0]) rfl ?_
    cases h
    exact Q.ret (A.ri zm126 (show zM126.2.2.2.2.2[9]? = some (17, 1, .ireturn, []) from rfl) rfl rfl) hl
  · rw [if_neg hc1] at h
    refine Q.map (A.bF (gI_of zm126 (e := (3, 3, .if_icmp .lt 13, [8])) rfl) (fun q => hc1 (of_decide_eq_true q))) ?_
    refine Q.run zm126 2 (i' := 5) (ls' := [some (.int x0)]) (st' := [.int 1048576, .int x0]) rfl ?_
    by_cases hc2 : 1048576 < x0
    · rw [if_pos hc2] at h
      refine Q.map (A.bT (gI_of zm126 (e := (9, 3, .if_icmp .gt 7, [8])) rfl) (decide_eq_true hc2)) ?_
      refine Q.run zm126 1 (i' := 9) (ls' := [some (.int x0)]) (st' := [.int 0]) rfl ?_
      cases h
      exact Q.ret (A.ri zm126 (show zM126.2.2.2.2.2[9]? = some (17, 1, .ireturn, []) from rfl) rfl rfl) hl
    · rw [if_neg hc2] at h
      refine Q.map (A.bF (gI_of zm126 (e := (9, 3, .if_icmp .gt 7, [8])) rfl) (fun q => hc2 (of_decide_eq_true q))) ?_
      refine Q.run zm126 2 (i' := 9) (ls' := [some (.int x0)]) (st' := [.int 1]) rfl ?_
      cases h
      exact Q.ret (A.ri zm126 (show zM126.2.2.2.2.2[9]? = some (17, 1, .ireturn, []) from rfl) rfl rfl) hl
/-! 127 FormulaTrees$Tree.become(LFormulaTrees$Tree;)V -/
set_option maxRecDepth 100000 in
theorem zm127 : zP[127]? = some zM127 := rfl
def dm127 (b0 : Nat) (b1 : Nat) (s : aS) : Option (aS) :=
  nx (wI s b0 2 (sI s b1 2)) fun s1 =>
  if ¬ (b1 + 1) = (b0 + 1) ∧ ¬ (0 : Int32) < 0 ∧ ¬ (0 : Int32) < 0 ∧ ¬ (1408 : Int32) < 0 ∧ jN 0 + jN 1408 ≤ 1408 ∧ jN 0 + jN 1408 ≤ 1408 then
    nx (cpI s1 (b1 + 1) (jN 0) (b0 + 1) (jN 0) (jN 1408)) fun s6 =>
    bu (dm41 (b0 + 2) (b1 + 2) s6) fun s14 =>
    some s14
  else none
set_option maxRecDepth 100000 in
theorem dt127 {sio : Bool} {tt : Nat} {cc : Nat → Nat → Int32} {d : Nat} (hd : 2 ≤ d) {b0 : Nat} {b1 : Nat} {s : aS} (hl : Ly tt cc s) (hk_b0 : aK s b0 3) (hk_b1 : aK s b1 3) {o : aS} (h : dm127  b0 b1 s = some o) : Q 1 sio tt cc d 127 0 [some (.ref b0), some (.ref b1)] [] s (.inl none, o) := by
  unfold dm127 at h
  obtain ⟨d, rfl⟩ : ∃ e, d = e + 1 := ⟨d - 1, by omega⟩
  refine Q.run zm127 2 (i' := 2) (ls' := [some (.ref b0), some (.ref b1)]) (st' := [.ref b1, .ref b0]) rfl ?_
  refine Q.map (A.gf (gI_of zm127 (e := (2, 3, .getfield 24, [3, 2])) rfl) hk_b1.1 (hl.tr hk_b1).1 (by decide) rfl) ?_
  obtain ⟨s1, hs2, h⟩ := nx_so h
  refine Q.pf hs2 (hl.g3 hk_b0) (gI_of zm127 (e := (5, 3, .putfield 24, [3, 2, 0])) rfl) hk_b0.1 (hl.tr hk_b0).2.2.2.2.2.2.2 (hl.tr hk_b0).1 (by decide) rfl rfl ?_
  have hl3 : Ly tt cc s1 := by rw [hs2]; exact hl.wId (hl.tr hk_b0).2.2.2.2.2.2.2
  have hr4 : aK s1 b0 3 := by rw [hs2]; exact hk_b0
  have hr5 : aK s1 b1 3 := by rw [hs2]; exact hk_b1
  refine Q.run zm127 1 (i' := 5) (ls' := [some (.ref b0), some (.ref b1)]) (st' := [.ref b1]) rfl ?_
  refine Q.map (A.gf (gI_of zm127 (e := (9, 3, .getfield 9, [3, 0])) rfl) hr5.1 (hl3.tr hr5).1 (by decide) (hl3.tr hr5).2.1) ?_
  refine Q.run zm127 2 (i' := 8) (ls' := [some (.ref b0), some (.ref b1)]) (st' := [.ref b0, .int 0, .ref (b1 + 1)]) rfl ?_
  refine Q.map (A.gf (gI_of zm127 (e := (14, 3, .getfield 9, [3, 0])) rfl) hr4.1 (hl3.tr hr4).1 (by decide) (hl3.tr hr4).2.1) ?_
  refine Q.run zm127 2 (i' := 11) (ls' := [some (.ref b0), some (.ref b1)]) (st' := [.ref b0, .int 0, .ref (b0 + 1), .int 0, .ref (b1 + 1)]) rfl ?_
  refine Q.map (A.gf (gI_of zm127 (e := (19, 3, .getfield 9, [3, 0])) rfl) hr4.1 (hl3.tr hr4).1 (by decide) (hl3.tr hr4).2.1) ?_
  refine Q.map (A.al (gI_of zm127 (e := (22, 1, .arraylength, [])) rfl) (by have := (hl3.tr hr4).2.2.2.1; omega) (hl3.tr hr4).2.2.2.2.1 (by decide)) ?_
  obtain ⟨hc9, h⟩ := ite_so h
  obtain ⟨s6, hs7, h⟩ := nx_so h
  refine Q.ac hs7 (hl3.g3a hr4) zm127 (show zM127.2.2.2.2.2[13]? = some (23, 3, .invokestatic 57, [2]) from rfl) (by have := (hl3.tr hr5).2.2.2.1; omega) (by have := (hl3.tr hr4).2.2.2.1; omega) (by have := (hl3.tr hr4).2.2.2.2.2.2.2; omega) (hl3.tr hr5).2.2.2.2.1 (hl3.tr hr4).2.2.2.2.1 hc9 ?_
  have hl8 : Ly tt cc s6 := by rw [hs7]; exact hl3.cp (by have := (hl3.tr hr4).2.2.2.2.2.2.2; omega)
  have hr10 : aK s6 b0 3 := by rw [hs7]; exact hr4
  have hr11 : aK s6 b1 3 := by rw [hs7]; exact hr5
  refine Q.run zm127 1 (i' := 15) (ls' := [some (.ref b0), some (.ref b1)]) (st' := [.ref b0]) rfl ?_
  refine Q.map (A.gf (gI_of zm127 (e := (27, 3, .getfield 20, [3, 1])) rfl) hr10.1 (hl8.tr hr10).1 (by decide) (hl8.tr hr10).2.2.1) ?_
  refine Q.run zm127 1 (i' := 17) (ls' := [some (.ref b0), some (.ref b1)]) (st' := [.ref b1, .ref (b0 + 2)]) rfl ?_
  refine Q.map (A.gf (gI_of zm127 (e := (31, 3, .getfield 20, [3, 1])) rfl) hr11.1 (hl8.tr hr11).1 (by decide) (hl8.tr hr11).2.2.1) ?_
  obtain ⟨s14, hc13, h⟩ := bu_so h
  have hq12 : Q 1 sio tt cc d 41 0 [some (.ref (b0 + 2)), some (.ref (b1 + 2)), none] [] s6 (.inl none, s14) := dt41 (by omega) hl8 (hl8.leK hr10) (hl8.leK hr11) hc13
  refine Q.callV (gC_vi zm127 (show zM127.2.2.2.2.2[18]? = some (34, 3, .invokevirtual 63, [0, 41, 1, 1]) from rfl) zm41 (by have := (hl8.tr hr10).2.2.2.1; omega) (hl8.tr hr10).2.2.2.2.2.1 rfl (show aCr 1 (b0 + 2) [.ref (b1 + 2), .ref (b0 + 2)] 3 = some ([some (.ref (b0 + 2)), some (.ref (b1 + 2)), none], []) from rfl)) hq12 ?_
  have hr15 : aK s14 b0 3 := hq12.2.1.k hr10
  have hr16 : aK s14 b1 3 := hq12.2.1.k hr11
  cases h
  exact Q.ret (A.rv zm127 (show zM127.2.2.2.2.2[19]? = some (37, 1, .return_, []) from rfl) rfl) hq12.1
/-! 129 FormulaTrees$Tree.isReference(I)Z -/
set_option maxRecDepth 100000 in
theorem zm129 : zP[129]? = some zM129 := rfl
def dm129_12 (s : aS) : Option (Int32) :=
  some 1
set_option maxRecDepth 100000 in
theorem dt129_12 {sio : Bool} {tt : Nat} {cc : Nat → Nat → Int32} {d : Nat} (hd : 1 ≤ d) {b0 : Nat} {x1 : Int32} {s : aS} (hl : Ly tt cc s) {o : Int32} (h : dm129_12  s = some o) : Q 1 sio tt cc d 129 12 [some (.ref b0), some (.int x1)] [] s (.inl (some (.int o)), s) := by
  unfold dm129_12 at h
  obtain ⟨d, rfl⟩ : ∃ e, d = e + 1 := ⟨d - 1, by omega⟩
  refine Q.run zm129 2 (i' := 15) (ls' := [some (.ref b0), some (.int x1)]) (st' := [.int 1]) rfl ?_
  cases h
  exact Q.ret (A.ri zm129 (show zM129.2.2.2.2.2[15]? = some (25, 1, .ireturn, []) from rfl) rfl rfl) hl
def dm129 (b0 : Nat) (x1 : Int32) (s : aS) : Option (Int32) :=
  bu (dm57 b0 x1 0 s) fun r3 =>
  if r3 = 4 then
    dm129_12 s
  else
    bu (dm57 b0 x1 0 s) fun r7 =>
    if r7 = 5 then
      dm129_12 s
    else
      some 0
set_option maxRecDepth 100000 in
theorem dt129 {sio : Bool} {tt : Nat} {cc : Nat → Nat → Int32} {d : Nat} (hd : 1 ≤ d) {b0 : Nat} {x1 : Int32} {s : aS} (hl : Ly tt cc s) (hk_b0 : aK s b0 3) {o : Int32} (h : dm129  b0 x1 s = some o) : Q 1 sio tt cc d 129 0 [some (.ref b0), some (.int x1)] [] s (.inl (some (.int o)), s) := by
  unfold dm129 at h
  obtain ⟨d, rfl⟩ : ∃ e, d = e + 1 := ⟨d - 1, by omega⟩
  refine Q.run zm129 3 (i' := 3) (ls' := [some (.ref b0), some (.int x1)]) (st' := [.int 0, .int x1, .ref b0]) rfl ?_
  obtain ⟨r3, hc2, h⟩ := bu_so h
  have hq1 : Q 1 sio tt cc d 57 0 [some (.ref b0), some (.int x1), some (.int 0), none] [] s (.inl (some (.int r3)), s) := dt57 (by omega) hl hk_b0 hc2
  refine Q.callI (gC_vi zm129 (show zM129.2.2.2.2.2[3]? = some (3, 3, .invokevirtual 28, [0, 57, 2, 3]) from rfl) zm57 hk_b0.1 (hl.tr hk_b0).1 rfl (show aCr 2 b0 [.int 0, .int x1, .ref b0] 4 = some ([some (.ref b0), some (.int x1), some (.int 0), none], []) from rfl)) hq1 ?_
  refine Q.run zm129 1 (i' := 5) (ls' := [some (.ref b0), some (.int x1)]) (st' := [.int 4, .int r3]) rfl ?_
  by_cases hc4 : r3 = 4
  · rw [if_pos hc4] at h
    refine Q.map (A.bT (gI_of zm129 (e := (7, 3, .if_icmp .eq 13, [12])) rfl) (decide_eq_true hc4)) ?_
    exact dt129_12 hd hl  h
  · rw [if_neg hc4] at h
    refine Q.map (A.bF (gI_of zm129 (e := (7, 3, .if_icmp .eq 13, [12])) rfl) (fun q => hc4 (of_decide_eq_true q))) ?_
    refine Q.run zm129 3 (i' := 9) (ls' := [some (.ref b0), some (.int x1)]) (st' := [.int 0, .int x1, .ref b0]) rfl ?_
    obtain ⟨r7, hc6, h⟩ := bu_so h
    have hq5 : Q 1 sio tt cc d 57 0 [some (.ref b0), some (.int x1), some (.int 0), none] [] s (.inl (some (.int r7)), s) := dt57 (by omega) hl hk_b0 hc6
    refine Q.callI (gC_vi zm129 (show zM129.2.2.2.2.2[9]? = some (13, 3, .invokevirtual 28, [0, 57, 2, 3]) from rfl) zm57 hk_b0.1 (hl.tr hk_b0).1 rfl (show aCr 2 b0 [.int 0, .int x1, .ref b0] 4 = some ([some (.ref b0), some (.int x1), some (.int 0), none], []) from rfl)) hq5 ?_
    refine Q.run zm129 1 (i' := 11) (ls' := [some (.ref b0), some (.int x1)]) (st' := [.int 5, .int r7]) rfl ?_
    by_cases hc8 : r7 = 5
    · rw [if_pos hc8] at h
      refine Q.map (A.bF (gI_of zm129 (e := (17, 3, .if_icmp .ne 7, [14])) rfl) (fun q => of_decide_eq_true q hc8)) ?_
      exact dt129_12 hd hl  h
    · rw [if_neg hc8] at h
      refine Q.map (A.bT (gI_of zm129 (e := (17, 3, .if_icmp .ne 7, [14])) rfl) (decide_eq_true hc8)) ?_
      refine Q.run zm129 1 (i' := 15) (ls' := [some (.ref b0), some (.int x1)]) (st' := [.int 0]) rfl ?_
      cases h
      exact Q.ret (A.ri zm129 (show zM129.2.2.2.2.2[15]? = some (25, 1, .ireturn, []) from rfl) rfl rfl) hl
/-! 131 FormulaTrees$Tree.hasDollar(II)Z -/
set_option maxRecDepth 100000 in
theorem zm131 : zP[131]? = some zM131 := rfl
def dm131_33 (b0 : Nat) (x1 : Int32) (y0 : Int32) (y1 : Int32) (s : aS) : Option (Int32) :=
  bu (dm57 b0 x1 7 s) fun r3 =>
  if (r3 &&& (y0 * y1)) = 0 then
    some 0
  else
    some 1
set_option maxRecDepth 100000 in
theorem dt131_33 {sio : Bool} {tt : Nat} {cc : Nat → Nat → Int32} {d : Nat} (hd : 1 ≤ d) {b0 : Nat} {x1 : Int32} {y0 : Int32} {y1 : Int32} {x2 : Int32} {x3 : Int32} {x4 : Int32} {s : aS} (hl : Ly tt cc s) (hk_b0 : aK s b0 3) {o : Int32} (h : dm131_33  b0 x1 y0 y1 s = some o) : Q 1 sio tt cc d 131 33 [some (.ref b0), some (.int x1), some (.int x2), some (.int x3), some (.int x4), none] [.int y1, .int y0] s (.inl (some (.int o)), s) := by
  unfold dm131_33 at h
  obtain ⟨d, rfl⟩ : ∃ e, d = e + 1 := ⟨d - 1, by omega⟩
  refine Q.run zm131 5 (i' := 38) (ls' := [some (.ref b0), some (.int x1), some (.int x2), some (.int x3), some (.int x4), some (.int (y0 * y1))]) (st' := [.int 7, .int x1, .ref b0]) rfl ?_
  obtain ⟨r3, hc2, h⟩ := bu_so h
  have hq1 : Q 1 sio tt cc d 57 0 [some (.ref b0), some (.int x1), some (.int 7), none] [] s (.inl (some (.int r3)), s) := dt57 (by omega) hl hk_b0 hc2
  refine Q.callI (gC_vi zm131 (show zM131.2.2.2.2.2[38]? = some (64, 3, .invokevirtual 28, [0, 57, 2, 3]) from rfl) zm57 hk_b0.1 (hl.tr hk_b0).1 rfl (show aCr 2 b0 [.int 7, .int x1, .ref b0] 4 = some ([some (.ref b0), some (.int x1), some (.int 7), none], []) from rfl)) hq1 ?_
  refine Q.run zm131 2 (i' := 41) (ls' := [some (.ref b0), some (.int x1), some (.int x2), some (.int x3), some (.int x4), some (.int (y0 * y1))]) (st' := [.int (r3 &&& (y0 * y1))]) rfl ?_
  by_cases hc4 : (r3 &&& (y0 * y1)) = 0
  · rw [if_pos hc4] at h
    refine Q.map (A.zT (gI_of zm131 (e := (70, 3, .ifCond .eq 7, [44])) rfl) (decide_eq_true hc4)) ?_
    refine Q.run zm131 1 (i' := 45) (ls' := [some (.ref b0), some (.int x1), some (.int x2), some (.int x3), some (.int x4), some (.int (y0 * y1))]) (st' := [.int 0]) rfl ?_
    cases h
    exact Q.ret (A.ri zm131 (show zM131.2.2.2.2.2[45]? = some (78, 1, .ireturn, []) from rfl) rfl rfl) hl
  · rw [if_neg hc4] at h
    refine Q.map (A.zF (gI_of zm131 (e := (70, 3, .ifCond .eq 7, [44])) rfl) (fun q => hc4 (of_decide_eq_true q))) ?_
    refine Q.run zm131 2 (i' := 45) (ls' := [some (.ref b0), some (.int x1), some (.int x2), some (.int x3), some (.int x4), some (.int (y0 * y1))]) (st' := [.int 1]) rfl ?_
    cases h
    exact Q.ret (A.ri zm131 (show zM131.2.2.2.2.2[45]? = some (78, 1, .ireturn, []) from rfl) rfl rfl) hl
def dm131_28 (b0 : Nat) (x1 : Int32) (x3 : Int32) (y0 : Int32) (s : aS) : Option (Int32) :=
  if x3 = 0 then
    dm131_33 b0 x1 y0 4 s
  else
    dm131_33 b0 x1 y0 1 s
set_option maxRecDepth 100000 in
theorem dt131_28 {sio : Bool} {tt : Nat} {cc : Nat → Nat → Int32} {d : Nat} (hd : 1 ≤ d) {b0 : Nat} {x1 : Int32} {x3 : Int32} {y0 : Int32} {x2 : Int32} {x4 : Int32} {s : aS} (hl : Ly tt cc s) (hk_b0 : aK s b0 3) {o : Int32} (h : dm131_28  b0 x1 x3 y0 s = some o) : Q 1 sio tt cc d 131 28 [some (.ref b0), some (.int x1), some (.int x2), some (.int x3), some (.int x4), none] [.int y0] s (.inl (some (.int o)), s) := by
  unfold dm131_28 at h
  obtain ⟨d, rfl⟩ : ∃ e, d = e + 1 := ⟨d - 1, by omega⟩
  refine Q.run zm131 1 (i' := 29) (ls' := [some (.ref b0), some (.int x1), some (.int x2), some (.int x3), some (.int x4), none]) (st' := [.int x3, .int y0]) rfl ?_
  by_cases hc1 : x3 = 0
  · rw [if_pos hc1] at h
    refine Q.map (A.zT (gI_of zm131 (e := (49, 3, .ifCond .eq 7, [32])) rfl) (decide_eq_true hc1)) ?_
    refine Q.run zm131 1 (i' := 33) (ls' := [some (.ref b0), some (.int x1), some (.int x2), some (.int x3), some (.int x4), none]) (st' := [.int 4, .int y0]) rfl ?_
    exact dt131_33 hd hl hk_b0 h
  · rw [if_neg hc1] at h
    refine Q.map (A.zF (gI_of zm131 (e := (49, 3, .ifCond .eq 7, [32])) rfl) (fun q => hc1 (of_decide_eq_true q))) ?_
    refine Q.run zm131 2 (i' := 33) (ls' := [some (.ref b0), some (.int x1), some (.int x2), some (.int x3), some (.int x4), none]) (st' := [.int 1, .int y0]) rfl ?_
    exact dt131_33 hd hl hk_b0 h
def dm131_22 (b0 : Nat) (x1 : Int32) (x3 : Int32) (y0 : Int32) (s : aS) : Option (Int32) :=
  if y0 = 0 then
    dm131_28 b0 x1 x3 2 s
  else
    dm131_28 b0 x1 x3 1 s
set_option maxRecDepth 100000 in
theorem dt131_22 {sio : Bool} {tt : Nat} {cc : Nat → Nat → Int32} {d : Nat} (hd : 1 ≤ d) {b0 : Nat} {x1 : Int32} {x3 : Int32} {y0 : Int32} {x2 : Int32} {s : aS} (hl : Ly tt cc s) (hk_b0 : aK s b0 3) {o : Int32} (h : dm131_22  b0 x1 x3 y0 s = some o) : Q 1 sio tt cc d 131 22 [some (.ref b0), some (.int x1), some (.int x2), some (.int x3), none, none] [.int y0] s (.inl (some (.int o)), s) := by
  unfold dm131_22 at h
  obtain ⟨d, rfl⟩ : ∃ e, d = e + 1 := ⟨d - 1, by omega⟩
  refine Q.run zm131 2 (i' := 24) (ls' := [some (.ref b0), some (.int x1), some (.int x2), some (.int x3), some (.int y0), none]) (st' := [.int y0]) rfl ?_
  by_cases hc1 : y0 = 0
  · rw [if_pos hc1] at h
    refine Q.map (A.zT (gI_of zm131 (e := (40, 3, .ifCond .eq 7, [27])) rfl) (decide_eq_true hc1)) ?_
    refine Q.run zm131 1 (i' := 28) (ls' := [some (.ref b0), some (.int x1), some (.int x2), some (.int x3), some (.int y0), none]) (st' := [.int 2]) rfl ?_
    exact dt131_28 hd hl hk_b0 h
  · rw [if_neg hc1] at h
    refine Q.map (A.zF (gI_of zm131 (e := (40, 3, .ifCond .eq 7, [27])) rfl) (fun q => hc1 (of_decide_eq_true q))) ?_
    refine Q.run zm131 2 (i' := 28) (ls' := [some (.ref b0), some (.int x1), some (.int x2), some (.int x3), some (.int y0), none]) (st' := [.int 1]) rfl ?_
    exact dt131_28 hd hl hk_b0 h
def dm131_19 (b0 : Nat) (x1 : Int32) (x3 : Int32) (s : aS) : Option (Int32) :=
  dm131_22 b0 x1 x3 1 s
set_option maxRecDepth 100000 in
theorem dt131_19 {sio : Bool} {tt : Nat} {cc : Nat → Nat → Int32} {d : Nat} (hd : 1 ≤ d) {b0 : Nat} {x1 : Int32} {x3 : Int32} {x2 : Int32} {s : aS} (hl : Ly tt cc s) (hk_b0 : aK s b0 3) {o : Int32} (h : dm131_19  b0 x1 x3 s = some o) : Q 1 sio tt cc d 131 19 [some (.ref b0), some (.int x1), some (.int x2), some (.int x3), none, none] [] s (.inl (some (.int o)), s) := by
  unfold dm131_19 at h
  obtain ⟨d, rfl⟩ : ∃ e, d = e + 1 := ⟨d - 1, by omega⟩
  refine Q.run zm131 2 (i' := 22) (ls' := [some (.ref b0), some (.int x1), some (.int x2), some (.int x3), none, none]) (st' := [.int 1]) rfl ?_
  exact dt131_22 hd hl hk_b0 h
def dm131_12 (b0 : Nat) (x1 : Int32) (x2 : Int32) (y0 : Int32) (s : aS) : Option (Int32) :=
  if x2 = 3 then
    dm131_19 b0 x1 y0 s
  else
    if x2 = 5 then
      dm131_19 b0 x1 y0 s
    else
      dm131_22 b0 x1 y0 0 s
set_option maxRecDepth 100000 in
theorem dt131_12 {sio : Bool} {tt : Nat} {cc : Nat → Nat → Int32} {d : Nat} (hd : 1 ≤ d) {b0 : Nat} {x1 : Int32} {x2 : Int32} {y0 : Int32} {s : aS} (hl : Ly tt cc s) (hk_b0 : aK s b0 3) {o : Int32} (h : dm131_12  b0 x1 x2 y0 s = some o) : Q 1 sio tt cc d 131 12 [some (.ref b0), some (.int x1), some (.int x2), none, none, none] [.int y0] s (.inl (some (.int o)), s) := by
  unfold dm131_12 at h
  obtain ⟨d, rfl⟩ : ∃ e, d = e + 1 := ⟨d - 1, by omega⟩
  refine Q.run zm131 3 (i' := 15) (ls' := [some (.ref b0), some (.int x1), some (.int x2), some (.int y0), none, none]) (st' := [.int 3, .int x2]) rfl ?_
  by_cases hc1 : x2 = 3
  · rw [if_pos hc1] at h
    refine Q.map (A.bT (gI_of zm131 (e := (23, 3, .if_icmp .eq 8, [19])) rfl) (decide_eq_true hc1)) ?_
    exact dt131_19 hd hl hk_b0 h
  · rw [if_neg hc1] at h
    refine Q.map (A.bF (gI_of zm131 (e := (23, 3, .if_icmp .eq 8, [19])) rfl) (fun q => hc1 (of_decide_eq_true q))) ?_
    refine Q.run zm131 2 (i' := 18) (ls' := [some (.ref b0), some (.int x1), some (.int x2), some (.int y0), none, none]) (st' := [.int 5, .int x2]) rfl ?_
    by_cases hc2 : x2 = 5
    · rw [if_pos hc2] at h
      refine Q.map (A.bF (gI_of zm131 (e := (28, 3, .if_icmp .ne 7, [21])) rfl) (fun q => of_decide_eq_true q hc2)) ?_
      exact dt131_19 hd hl hk_b0 h
    · rw [if_neg hc2] at h
      refine Q.map (A.bT (gI_of zm131 (e := (28, 3, .if_icmp .ne 7, [21])) rfl) (decide_eq_true hc2)) ?_
      refine Q.run zm131 1 (i' := 22) (ls' := [some (.ref b0), some (.int x1), some (.int x2), some (.int y0), none, none]) (st' := [.int 0]) rfl ?_
      exact dt131_22 hd hl hk_b0 h
def dm131_9 (b0 : Nat) (x1 : Int32) (x2 : Int32) (s : aS) : Option (Int32) :=
  dm131_12 b0 x1 x2 1 s
set_option maxRecDepth 100000 in
theorem dt131_9 {sio : Bool} {tt : Nat} {cc : Nat → Nat → Int32} {d : Nat} (hd : 1 ≤ d) {b0 : Nat} {x1 : Int32} {x2 : Int32} {s : aS} (hl : Ly tt cc s) (hk_b0 : aK s b0 3) {o : Int32} (h : dm131_9  b0 x1 x2 s = some o) : Q 1 sio tt cc d 131 9 [some (.ref b0), some (.int x1), some (.int x2), none, none, none] [] s (.inl (some (.int o)), s) := by
  unfold dm131_9 at h
  obtain ⟨d, rfl⟩ : ∃ e, d = e + 1 := ⟨d - 1, by omega⟩
  refine Q.run zm131 2 (i' := 12) (ls' := [some (.ref b0), some (.int x1), some (.int x2), none, none, none]) (st' := [.int 1]) rfl ?_
  exact dt131_12 hd hl hk_b0 h
def dm131 (b0 : Nat) (x1 : Int32) (x2 : Int32) (s : aS) : Option (Int32) :=
  if x2 ≤ 4 then
    dm131_9 b0 x1 x2 s
  else
    bu (dm57 b0 x1 0 s) fun r4 =>
    if r4 = 4 then
      dm131_9 b0 x1 x2 s
    else
      dm131_12 b0 x1 x2 0 s
set_option maxRecDepth 100000 in
theorem dt131 {sio : Bool} {tt : Nat} {cc : Nat → Nat → Int32} {d : Nat} (hd : 1 ≤ d) {b0 : Nat} {x1 : Int32} {x2 : Int32} {s : aS} (hl : Ly tt cc s) (hk_b0 : aK s b0 3) {o : Int32} (h : dm131  b0 x1 x2 s = some o) : Q 1 sio tt cc d 131 0 [some (.ref b0), some (.int x1), some (.int x2), none, none, none] [] s (.inl (some (.int o)), s) := by
  unfold dm131 at h
  obtain ⟨d, rfl⟩ : ∃ e, d = e + 1 := ⟨d - 1, by omega⟩
  refine Q.run zm131 2 (i' := 2) (ls' := [some (.ref b0), some (.int x1), some (.int x2), none, none, none]) (st' := [.int 4, .int x2]) rfl ?_
  by_cases hc1 : x2 ≤ 4
  · rw [if_pos hc1] at h
    refine Q.map (A.bT (gI_of zm131 (e := (2, 3, .if_icmp .le 13, [9])) rfl) (decide_eq_true hc1)) ?_
    exact dt131_9 hd hl hk_b0 h
  · rw [if_neg hc1] at h
    refine Q.map (A.bF (gI_of zm131 (e := (2, 3, .if_icmp .le 13, [9])) rfl) (fun q => hc1 (of_decide_eq_true q))) ?_
    refine Q.run zm131 3 (i' := 6) (ls' := [some (.ref b0), some (.int x1), some (.int x2), none, none, none]) (st' := [.int 0, .int x1, .ref b0]) rfl ?_
    obtain ⟨r4, hc3, h⟩ := bu_so h
    have hq2 : Q 1 sio tt cc d 57 0 [some (.ref b0), some (.int x1), some (.int 0), none] [] s (.inl (some (.int r4)), s) := dt57 (by omega) hl hk_b0 hc3
    refine Q.callI (gC_vi zm131 (show zM131.2.2.2.2.2[6]? = some (8, 3, .invokevirtual 28, [0, 57, 2, 3]) from rfl) zm57 hk_b0.1 (hl.tr hk_b0).1 rfl (show aCr 2 b0 [.int 0, .int x1, .ref b0] 4 = some ([some (.ref b0), some (.int x1), some (.int 0), none], []) from rfl)) hq2 ?_
    refine Q.run zm131 1 (i' := 8) (ls' := [some (.ref b0), some (.int x1), some (.int x2), none, none, none]) (st' := [.int 4, .int r4]) rfl ?_
    by_cases hc5 : r4 = 4
    · rw [if_pos hc5] at h
      refine Q.map (A.bF (gI_of zm131 (e := (12, 3, .if_icmp .ne 7, [11])) rfl) (fun q => of_decide_eq_true q hc5)) ?_
      exact dt131_9 hd hl hk_b0 h
    · rw [if_neg hc5] at h
      refine Q.map (A.bT (gI_of zm131 (e := (12, 3, .if_icmp .ne 7, [11])) rfl) (decide_eq_true hc5)) ?_
      refine Q.run zm131 1 (i' := 12) (ls' := [some (.ref b0), some (.int x1), some (.int x2), none, none, none]) (st' := [.int 0]) rfl ?_
      exact dt131_12 hd hl hk_b0 h
end
