/-! 7 FormulaTreesLaw.shift(LFormulaTrees;IZII[J)I -/
set_option maxRecDepth 100000 in
theorem zm7 : zP[7]? = some zM7 := rfl
def dm7 (x1 : Int32) (x2 : Int32) (x3 : Int32) (x4 : Int32) (s : aS) : Option (Int32 × aS) :=
  bv (dm133 x1 x2 x3 x4 s) fun z4 s3 =>
  zN z4 (fun v5 =>
    vI v5 fun r7 =>
    if aB 0 1 then
      nx (wJ s3 148 (jN 0) r7.toInt64) fun s10 =>
      some (0, s10)
    else none
  ) fun e6 =>
    if e6 = 2 then
      some (1, s3)
    else
      if e6 = 0 then
        some (2, s3)
      else
        none
set_option maxRecDepth 100000 in
theorem dt7 {sio : Bool} {tt : Nat} {cc : Nat → Nat → Int32} {d : Nat} (hd : 10 ≤ d) {x1 : Int32} {x2 : Int32} {x3 : Int32} {x4 : Int32} {s : aS} (hl : Ly tt cc s) {o : Int32 × aS} (h : dm7  x1 x2 x3 x4 s = some o) : Q 1 sio tt cc d 7 0 [some (.ref 78), some (.int x1), some (.int x2), some (.int x3), some (.int x4), some (.ref 148), none] [] s (.inl (some (.int o.1)), o.2) := by
  unfold dm7 at h
  obtain ⟨d, rfl⟩ : ∃ e, d = e + 1 := ⟨d - 1, by omega⟩
  refine Q.run zm7 7 (i' := 7) (ls' := [some (.ref 78), some (.int x1), some (.int x2), some (.int x3), some (.int x4), some (.ref 148), none]) (st' := [.int x4, .int x3, .int x2, .int x1, .ref 78, .int 0, .ref 148]) rfl ?_
  obtain ⟨z4, s3, hc2, h⟩ := bv_so h
  have hq1 : Q 1 sio tt cc d 133 0 [some (.ref 78), some (.int x1), some (.int x2), some (.int x3), some (.int x4), none, none, none] [] s (z4, s3) := dt133 (by omega) hl  hc2
  rcases zN_so h with ⟨v5, hz13, h8⟩ | ⟨e6, hz13, h8⟩
  · clear h
    subst hz13
    have h := h8
    obtain ⟨r7, hv8, h9⟩ := vI_so h
    clear h
    subst hv8
    have h := h9
    refine Q.callI (gC_vi zm7 (show zM7.2.2.2.2.2[7]? = some (9, 3, .invokevirtual 38, [0, 133, 4, 0]) from rfl) zm133 (hl.lt (a := 78) (by decide)) (hl.T (a := 78) (p := (0, 7)) 0 rfl rfl) rfl (show aCr 4 78 [.int x4, .int x3, .int x2, .int x1, .ref 78, .int 0, .ref 148] 8 = some ([some (.ref 78), some (.int x1), some (.int x2), some (.int x3), some (.int x4), none, none, none], [.int 0, .ref 148]) from rfl)) hq1 ?_
    refine Q.run zm7 1 (i' := 9) (ls' := [some (.ref 78), some (.int x1), some (.int x2), some (.int x3), some (.int x4), some (.ref 148), none]) (st' := [.long r7.toInt64, .int 0, .ref 148]) rfl ?_
    obtain ⟨hc9, h⟩ := ite_so h
    obtain ⟨s10, hs11, h⟩ := nx_so h
    refine Q.lS hs11 rfl (gI_of zm7 (e := (13, 1, .lastore, [])) rfl) (hq1.1.lt (a := 148) (by decide)) (by decide) (hq1.1.T (a := 148) (p := (104, 1)) 70 rfl rfl) hc9 ?_
    have hl12 : Ly tt cc s10 := by rw [hs11]; exact hq1.1.wJd
    refine Q.run zm7 2 (i' := 18) (ls' := [some (.ref 78), some (.int x1), some (.int x2), some (.int x3), some (.int x4), some (.ref 148), none]) (st' := [.int 0]) rfl ?_
    cases h
    exact Q.ret (A.ri zm7 (show zM7.2.2.2.2.2[18]? = some (26, 1, .ireturn, []) from rfl) rfl rfl) hl12
  · clear h
    subst hz13
    have h := h8
    by_cases hc14 : e6 = 2
    · rw [if_pos hc14] at h
      subst hc14
      refine Q.hc (gC_vi zm7 (show zM7.2.2.2.2.2[7]? = some (9, 3, .invokevirtual 38, [0, 133, 4, 0]) from rfl) zm133 (hl.lt (a := 78) (by decide)) (hl.T (a := 78) (p := (0, 7)) 0 rfl rfl) rfl (show aCr 4 78 [.int x4, .int x3, .int x2, .int x1, .ref 78, .int 0, .ref 148] 8 = some ([some (.ref 78), some (.int x1), some (.int x2), some (.int x3), some (.int x4), none, none, none], [.int 0, .ref 148]) from rfl)) hq1 (t := 11) rfl ?_
      refine Q.run zm7 2 (i' := 13) (ls' := [some (.ref 78), some (.int x1), some (.int x2), some (.int x3), some (.int x4), some (.ref 148), some (.ref (sL s3 - 1))]) (st' := [.int 1]) rfl ?_
      cases h
      exact Q.ret (A.ri zm7 (show zM7.2.2.2.2.2[13]? = some (20, 1, .ireturn, []) from rfl) rfl rfl) hq1.1
    · rw [if_neg hc14] at h
      by_cases hc15 : e6 = 0
      · rw [if_pos hc15] at h
        subst hc15
        refine Q.hc (gC_vi zm7 (show zM7.2.2.2.2.2[7]? = some (9, 3, .invokevirtual 38, [0, 133, 4, 0]) from rfl) zm133 (hl.lt (a := 78) (by decide)) (hl.T (a := 78) (p := (0, 7)) 0 rfl rfl) rfl (show aCr 4 78 [.int x4, .int x3, .int x2, .int x1, .ref 78, .int 0, .ref 148] 8 = some ([some (.ref 78), some (.int x1), some (.int x2), some (.int x3), some (.int x4), none, none, none], [.int 0, .ref 148]) from rfl)) hq1 (t := 14) rfl ?_
        refine Q.run zm7 2 (i' := 16) (ls' := [some (.ref 78), some (.int x1), some (.int x2), some (.int x3), some (.int x4), some (.ref 148), some (.ref (sL s3 - 1))]) (st' := [.int 2]) rfl ?_
        cases h
        exact Q.ret (A.ri zm7 (show zM7.2.2.2.2.2[16]? = some (24, 1, .ireturn, []) from rfl) rfl rfl) hq1.1
      · rw [if_neg hc15] at h
        cases h
/-! 229 FormulaTreesModel.firstBehind(III)I -/
set_option maxRecDepth 100000 in
theorem zm229 : zP[229]? = some zM229 := rfl
def dm229 (x0 : Int32) (x1 : Int32) (x2 : Int32) : Option (Int32) :=
  if x1 ≤ x0 then
    if x2 < 0 then
      if (x1 - x2) ≤ x0 then
        some (x0 + x2)
      else
        some x1
    else
      some (x0 + x2)
  else
    some x0
set_option maxRecDepth 100000 in
theorem dt229 {sio : Bool} {tt : Nat} {cc : Nat → Nat → Int32} {d : Nat} (hd : 0 ≤ d) {x0 : Int32} {x1 : Int32} {x2 : Int32} {s : aS} (hl : Ly tt cc s) {o : Int32} (h : dm229  x0 x1 x2 = some o) : Q 2 sio tt cc d 229 0 [some (.int x0), some (.int x1), some (.int x2)] [] s (.inl (some (.int o)), s) := by
  unfold dm229 at h
  refine Q.run zm229 2 (i' := 2) (ls' := [some (.int x0), some (.int x1), some (.int x2)]) (st' := [.int x1, .int x0]) rfl ?_
  by_cases hc1 : x1 ≤ x0
  · rw [if_pos hc1] at h
    refine Q.map (A.bT (gI_of zm229 (e := (2, 3, .if_icmp .ge 5, [5])) rfl) (decide_eq_true hc1)) ?_
    refine Q.run zm229 1 (i' := 6) (ls' := [some (.int x0), some (.int x1), some (.int x2)]) (st' := [.int x2]) rfl ?_
    by_cases hc2 : x2 < 0
    · rw [if_pos hc2] at h
      refine Q.map (A.zT (gI_of zm229 (e := (8, 3, .ifCond .lt 7, [11])) rfl) (decide_eq_true hc2)) ?_
      refine Q.run zm229 4 (i' := 15) (ls' := [some (.int x0), some (.int x1), some (.int x2)]) (st' := [.int (x1 - x2), .int x0]) rfl ?_
      by_cases hc3 : (x1 - x2) ≤ x0
      · rw [if_pos hc3] at h
        refine Q.map (A.bT (gI_of zm229 (e := (19, 3, .if_icmp .ge 7, [18])) rfl) (decide_eq_true hc3)) ?_
        refine Q.run zm229 3 (i' := 21) (ls' := [some (.int x0), some (.int x1), some (.int x2)]) (st' := [.int (x0 + x2)]) rfl ?_
        cases h
        exact Q.ret (A.ri zm229 (show zM229.2.2.2.2.2[21]? = some (29, 1, .ireturn, []) from rfl) rfl rfl) hl
      · rw [if_neg hc3] at h
        refine Q.map (A.bF (gI_of zm229 (e := (19, 3, .if_icmp .ge 7, [18])) rfl) (fun q => hc3 (of_decide_eq_true q))) ?_
        refine Q.run zm229 2 (i' := 21) (ls' := [some (.int x0), some (.int x1), some (.int x2)]) (st' := [.int x1]) rfl ?_
        cases h
        exact Q.ret (A.ri zm229 (show zM229.2.2.2.2.2[21]? = some (29, 1, .ireturn, []) from rfl) rfl rfl) hl
    · rw [if_neg hc2] at h
      refine Q.map (A.zF (gI_of zm229 (e := (8, 3, .ifCond .lt 7, [11])) rfl) (fun q => hc2 (of_decide_eq_true q))) ?_
      refine Q.run zm229 3 (i' := 10) (ls' := [some (.int x0), some (.int x1), some (.int x2)]) (st' := [.int (x0 + x2)]) rfl ?_
      cases h
      exact Q.ret (A.ri zm229 (show zM229.2.2.2.2.2[10]? = some (14, 1, .ireturn, []) from rfl) rfl rfl) hl
  · rw [if_neg hc1] at h
    refine Q.map (A.bF (gI_of zm229 (e := (2, 3, .if_icmp .ge 5, [5])) rfl) (fun q => hc1 (of_decide_eq_true q))) ?_
    refine Q.run zm229 1 (i' := 4) (ls' := [some (.int x0), some (.int x1), some (.int x2)]) (st' := [.int x0]) rfl ?_
    cases h
    exact Q.ret (A.ri zm229 (show zM229.2.2.2.2.2[4]? = some (6, 1, .ireturn, []) from rfl) rfl rfl) hl
/-! 230 FormulaTreesModel.lastBehind(IIII)I -/
set_option maxRecDepth 100000 in
theorem zm230 : zP[230]? = some zM230 := rfl
def dm230 (x0 : Int32) (x1 : Int32) (x2 : Int32) (x3 : Int32) : Option (Int32) :=
  if x1 ≤ x0 then
    if 0 ≤ x2 then
      if (x0 + x2) ≤ x3 then
        some (x0 + x2)
      else
        some x3
    else
      if (x1 - x2) ≤ x0 then
        some (x0 + x2)
      else
        some (x1 - 1)
  else
    some x0
set_option maxRecDepth 100000 in
theorem dt230 {sio : Bool} {tt : Nat} {cc : Nat → Nat → Int32} {d : Nat} (hd : 0 ≤ d) {x0 : Int32} {x1 : Int32} {x2 : Int32} {x3 : Int32} {s : aS} (hl : Ly tt cc s) {o : Int32} (h : dm230  x0 x1 x2 x3 = some o) : Q 2 sio tt cc d 230 0 [some (.int x0), some (.int x1), some (.int x2), some (.int x3)] [] s (.inl (some (.int o)), s) := by
  unfold dm230 at h
  refine Q.run zm230 2 (i' := 2) (ls' := [some (.int x0), some (.int x1), some (.int x2), some (.int x3)]) (st' := [.int x1, .int x0]) rfl ?_
  by_cases hc1 : x1 ≤ x0
  · rw [if_pos hc1] at h
    refine Q.map (A.bT (gI_of zm230 (e := (2, 3, .if_icmp .ge 5, [5])) rfl) (decide_eq_true hc1)) ?_
    refine Q.run zm230 1 (i' := 6) (ls' := [some (.int x0), some (.int x1), some (.int x2), some (.int x3)]) (st' := [.int x2]) rfl ?_
    by_cases hc2 : 0 ≤ x2
    · rw [if_pos hc2] at h
      refine Q.map (A.zT (gI_of zm230 (e := (8, 3, .ifCond .ge 20, [20])) rfl) (decide_eq_true hc2)) ?_
      refine Q.run zm230 4 (i' := 24) (ls' := [some (.int x0), some (.int x1), some (.int x2), some (.int x3)]) (st' := [.int x3, .int (x0 + x2)]) rfl ?_
      by_cases hc3 : (x0 + x2) ≤ x3
      · rw [if_pos hc3] at h
        refine Q.map (A.bT (gI_of zm230 (e := (32, 3, .if_icmp .le 7, [27])) rfl) (decide_eq_true hc3)) ?_
        refine Q.run zm230 3 (i' := 30) (ls' := [some (.int x0), some (.int x1), some (.int x2), some (.int x3)]) (st' := [.int (x0 + x2)]) rfl ?_
        cases h
        exact Q.ret (A.ri zm230 (show zM230.2.2.2.2.2[30]? = some (42, 1, .ireturn, []) from rfl) rfl rfl) hl
      · rw [if_neg hc3] at h
        refine Q.map (A.bF (gI_of zm230 (e := (32, 3, .if_icmp .le 7, [27])) rfl) (fun q => hc3 (of_decide_eq_true q))) ?_
        refine Q.run zm230 2 (i' := 30) (ls' := [some (.int x0), some (.int x1), some (.int x2), some (.int x3)]) (st' := [.int x3]) rfl ?_
        cases h
        exact Q.ret (A.ri zm230 (show zM230.2.2.2.2.2[30]? = some (42, 1, .ireturn, []) from rfl) rfl rfl) hl
    · rw [if_neg hc2] at h
      refine Q.map (A.zF (gI_of zm230 (e := (8, 3, .ifCond .ge 20, [20])) rfl) (fun q => hc2 (of_decide_eq_true q))) ?_
      refine Q.run zm230 4 (i' := 11) (ls' := [some (.int x0), some (.int x1), some (.int x2), some (.int x3)]) (st' := [.int (x1 - x2), .int x0]) rfl ?_
      by_cases hc4 : (x1 - x2) ≤ x0
      · rw [if_pos hc4] at h
        refine Q.map (A.bT (gI_of zm230 (e := (15, 3, .if_icmp .ge 9, [16])) rfl) (decide_eq_true hc4)) ?_
        refine Q.run zm230 3 (i' := 19) (ls' := [some (.int x0), some (.int x1), some (.int x2), some (.int x3)]) (st' := [.int (x0 + x2)]) rfl ?_
        cases h
        exact Q.ret (A.ri zm230 (show zM230.2.2.2.2.2[19]? = some (27, 1, .ireturn, []) from rfl) rfl rfl) hl
      · rw [if_neg hc4] at h
        refine Q.map (A.bF (gI_of zm230 (e := (15, 3, .if_icmp .ge 9, [16])) rfl) (fun q => hc4 (of_decide_eq_true q))) ?_
        refine Q.run zm230 4 (i' := 19) (ls' := [some (.int x0), some (.int x1), some (.int x2), some (.int x3)]) (st' := [.int (x1 - 1)]) rfl ?_
        cases h
        exact Q.ret (A.ri zm230 (show zM230.2.2.2.2.2[19]? = some (27, 1, .ireturn, []) from rfl) rfl rfl) hl
  · rw [if_neg hc1] at h
    refine Q.map (A.bF (gI_of zm230 (e := (2, 3, .if_icmp .ge 5, [5])) rfl) (fun q => hc1 (of_decide_eq_true q))) ?_
    refine Q.run zm230 1 (i' := 4) (ls' := [some (.int x0), some (.int x1), some (.int x2), some (.int x3)]) (st' := [.int x0]) rfl ?_
    cases h
    exact Q.ret (A.ri zm230 (show zM230.2.2.2.2.2[4]? = some (6, 1, .ireturn, []) from rfl) rfl rfl) hl
/-! 228 FormulaTreesModel.shift(IZII)I -/
set_option maxRecDepth 100000 in
theorem zm228 : zP[228]? = some zM228 := rfl
def dm228_165 (k36 : Int32 → Int32 → Int32 → Int32 → Int32 → Int32 → Int32 → aS → Option (Int32 × aS)) (x1 : Int32) (x2 : Int32) (x3 : Int32) (x4 : Int32) (x5 : Int32) (x6 : Int32) (x7 : Int32) (s : aS) : Option (Int32 × aS) :=
  k36 x1 x2 x3 x4 x5 x6 (x7 + 1) s
set_option maxRecDepth 100000 in
theorem dt228_165 {sio : Bool} {tt : Nat} {cc : Nat → Nat → Int32} {d : Nat} (hd : 1 ≤ d) {k36 : Int32 → Int32 → Int32 → Int32 → Int32 → Int32 → Int32 → aS → Option (Int32 × aS)} (hk36 : ∀ {x1 : Int32} {x2 : Int32} {x3 : Int32} {x4 : Int32} {x5 : Int32} {x6 : Int32} {x7 : Int32} {g8 : Option Value} {g9 : Option Value} {g10 : Option Value} {g11 : Option Value} {g12 : Option Value} {s : aS}, Ly tt cc s → ∀ {o : Int32 × aS}, k36 x1 x2 x3 x4 x5 x6 x7 s = some o → Q 2 sio tt cc d 228 36 [some (.ref 121), some (.int x1), some (.int x2), some (.int x3), some (.int x4), some (.int x5), some (.int x6), some (.int x7), g8, g9, g10, g11, g12] [] s (.inl (some (.int o.1)), o.2)) {x1 : Int32} {x2 : Int32} {x3 : Int32} {x4 : Int32} {x5 : Int32} {x6 : Int32} {x7 : Int32} {x8 : Int32} {g9 : Option Value} {g10 : Option Value} {g11 : Option Value} {g12 : Option Value} {s : aS} (hl : Ly tt cc s) {o : Int32 × aS} (h : dm228_165 k36 x1 x2 x3 x4 x5 x6 x7 s = some o) : Q 2 sio tt cc d 228 165 [some (.ref 121), some (.int x1), some (.int x2), some (.int x3), some (.int x4), some (.int x5), some (.int x6), some (.int x7), some (.int x8), g9, g10, g11, g12] [] s (.inl (some (.int o.1)), o.2) := by
  unfold dm228_165 at h
  obtain ⟨d, rfl⟩ : ∃ e, d = e + 1 := ⟨d - 1, by omega⟩
  refine Q.run zm228 2 (i' := 36) (ls' := [some (.ref 121), some (.int x1), some (.int x2), some (.int x3), some (.int x4), some (.int x5), some (.int x6), some (.int (x7 + 1)), some (.int x8), g9, g10, g11, g12]) (st' := []) rfl ?_
  exact hk36 hl  h
def dm228_163 (k36 : Int32 → Int32 → Int32 → Int32 → Int32 → Int32 → Int32 → aS → Option (Int32 × aS)) (k43 : Int32 → Int32 → Int32 → Int32 → Int32 → Int32 → Int32 → Int32 → aS → Option (Int32 × aS)) (x1 : Int32) (x2 : Int32) (x3 : Int32) (x4 : Int32) (x5 : Int32) (x6 : Int32) (x7 : Int32) (x8 : Int32) (s : aS) : Option (Int32 × aS) :=
  k43 x1 x2 x3 x4 x5 x6 x7 (x8 + 1) s
set_option maxRecDepth 100000 in
theorem dt228_163 {sio : Bool} {tt : Nat} {cc : Nat → Nat → Int32} {d : Nat} (hd : 1 ≤ d) {k36 : Int32 → Int32 → Int32 → Int32 → Int32 → Int32 → Int32 → aS → Option (Int32 × aS)} (hk36 : ∀ {x1 : Int32} {x2 : Int32} {x3 : Int32} {x4 : Int32} {x5 : Int32} {x6 : Int32} {x7 : Int32} {g8 : Option Value} {g9 : Option Value} {g10 : Option Value} {g11 : Option Value} {g12 : Option Value} {s : aS}, Ly tt cc s → ∀ {o : Int32 × aS}, k36 x1 x2 x3 x4 x5 x6 x7 s = some o → Q 2 sio tt cc d 228 36 [some (.ref 121), some (.int x1), some (.int x2), some (.int x3), some (.int x4), some (.int x5), some (.int x6), some (.int x7), g8, g9, g10, g11, g12] [] s (.inl (some (.int o.1)), o.2)) {k43 : Int32 → Int32 → Int32 → Int32 → Int32 → Int32 → Int32 → Int32 → aS → Option (Int32 × aS)} (hk43 : ∀ {x1 : Int32} {x2 : Int32} {x3 : Int32} {x4 : Int32} {x5 : Int32} {x6 : Int32} {x7 : Int32} {x8 : Int32} {g9 : Option Value} {g10 : Option Value} {g11 : Option Value} {g12 : Option Value} {s : aS}, Ly tt cc s → ∀ {o : Int32 × aS}, k43 x1 x2 x3 x4 x5 x6 x7 x8 s = some o → Q 2 sio tt cc d 228 43 [some (.ref 121), some (.int x1), some (.int x2), some (.int x3), some (.int x4), some (.int x5), some (.int x6), some (.int x7), some (.int x8), g9, g10, g11, g12] [] s (.inl (some (.int o.1)), o.2)) {x1 : Int32} {x2 : Int32} {x3 : Int32} {x4 : Int32} {x5 : Int32} {x6 : Int32} {x7 : Int32} {x8 : Int32} {x9 : Int32} {g10 : Option Value} {g11 : Option Value} {g12 : Option Value} {s : aS} (hl : Ly tt cc s) {o : Int32 × aS} (h : dm228_163 k36 k43 x1 x2 x3 x4 x5 x6 x7 x8 s = some o) : Q 2 sio tt cc d 228 163 [some (.ref 121), some (.int x1), some (.int x2), some (.int x3), some (.int x4), some (.int x5), some (.int x6), some (.int x7), some (.int x8), some (.int x9), g10, g11, g12] [] s (.inl (some (.int o.1)), o.2) := by
  unfold dm228_163 at h
  obtain ⟨d, rfl⟩ : ∃ e, d = e + 1 := ⟨d - 1, by omega⟩
  refine Q.run zm228 2 (i' := 43) (ls' := [some (.ref 121), some (.int x1), some (.int x2), some (.int x3), some (.int x4), some (.int x5), some (.int x6), some (.int x7), some (.int (x8 + 1)), some (.int x9), g10, g11, g12]) (st' := []) rfl ?_
  exact hk43 hl  h
def dm228_132 (k36 : Int32 → Int32 → Int32 → Int32 → Int32 → Int32 → Int32 → aS → Option (Int32 × aS)) (k43 : Int32 → Int32 → Int32 → Int32 → Int32 → Int32 → Int32 → Int32 → aS → Option (Int32 × aS)) (x1 : Int32) (x2 : Int32) (x3 : Int32) (x4 : Int32) (x5 : Int32) (x6 : Int32) (x7 : Int32) (x8 : Int32) (x10 : Int32) (x11 : Int32) (y0 : Int32) (s : aS) : Option (Int32 × aS) :=
  if y0 = 0 then
    if x2 = 0 then
      if aB x8 1152 then
        nx (wI s 132 (jN x8) x10) fun s4 =>
        if aB x8 1152 then
          nx (wI s4 134 (jN x8) x11) fun s8 =>
          dm228_163 k36 k43 x1 x2 x3 x4 x5 x6 x7 x8 s8
        else none
      else none
    else
      if aB x8 1152 then
        nx (wI s 131 (jN x8) x10) fun s12 =>
        if aB x8 1152 then
          nx (wI s12 133 (jN x8) x11) fun s16 =>
          dm228_163 k36 k43 x1 x2 x3 x4 x5 x6 x7 x8 s16
        else none
      else none
  else
    bu (dm183 x8 s) fun s21 =>
    dm228_163 k36 k43 x1 x2 x3 x4 x5 (x6 + 1) x7 x8 s21
set_option maxRecDepth 100000 in
theorem dt228_132 {sio : Bool} {tt : Nat} {cc : Nat → Nat → Int32} {d : Nat} (hd : 1 ≤ d) {k36 : Int32 → Int32 → Int32 → Int32 → Int32 → Int32 → Int32 → aS → Option (Int32 × aS)} (hk36 : ∀ {x1 : Int32} {x2 : Int32} {x3 : Int32} {x4 : Int32} {x5 : Int32} {x6 : Int32} {x7 : Int32} {g8 : Option Value} {g9 : Option Value} {g10 : Option Value} {g11 : Option Value} {g12 : Option Value} {s : aS}, Ly tt cc s → ∀ {o : Int32 × aS}, k36 x1 x2 x3 x4 x5 x6 x7 s = some o → Q 2 sio tt cc d 228 36 [some (.ref 121), some (.int x1), some (.int x2), some (.int x3), some (.int x4), some (.int x5), some (.int x6), some (.int x7), g8, g9, g10, g11, g12] [] s (.inl (some (.int o.1)), o.2)) {k43 : Int32 → Int32 → Int32 → Int32 → Int32 → Int32 → Int32 → Int32 → aS → Option (Int32 × aS)} (hk43 : ∀ {x1 : Int32} {x2 : Int32} {x3 : Int32} {x4 : Int32} {x5 : Int32} {x6 : Int32} {x7 : Int32} {x8 : Int32} {g9 : Option Value} {g10 : Option Value} {g11 : Option Value} {g12 : Option Value} {s : aS}, Ly tt cc s → ∀ {o : Int32 × aS}, k43 x1 x2 x3 x4 x5 x6 x7 x8 s = some o → Q 2 sio tt cc d 228 43 [some (.ref 121), some (.int x1), some (.int x2), some (.int x3), some (.int x4), some (.int x5), some (.int x6), some (.int x7), some (.int x8), g9, g10, g11, g12] [] s (.inl (some (.int o.1)), o.2)) {x1 : Int32} {x2 : Int32} {x3 : Int32} {x4 : Int32} {x5 : Int32} {x6 : Int32} {x7 : Int32} {x8 : Int32} {x10 : Int32} {x11 : Int32} {y0 : Int32} {x9 : Int32} {g12 : Option Value} {s : aS} (hl : Ly tt cc s) {o : Int32 × aS} (h : dm228_132 k36 k43 x1 x2 x3 x4 x5 x6 x7 x8 x10 x11 y0 s = some o) : Q 2 sio tt cc d 228 132 [some (.ref 121), some (.int x1), some (.int x2), some (.int x3), some (.int x4), some (.int x5), some (.int x6), some (.int x7), some (.int x8), some (.int x9), some (.int x10), some (.int x11), g12] [.int y0] s (.inl (some (.int o.1)), o.2) := by
  unfold dm228_132 at h
  obtain ⟨d, rfl⟩ : ∃ e, d = e + 1 := ⟨d - 1, by omega⟩
  refine Q.run zm228 2 (i' := 134) (ls' := [some (.ref 121), some (.int x1), some (.int x2), some (.int x3), some (.int x4), some (.int x5), some (.int x6), some (.int x7), some (.int x8), some (.int x9), some (.int x10), some (.int x11), some (.int y0)]) (st' := [.int y0]) rfl ?_
  by_cases hc1 : y0 = 0
  · rw [if_pos hc1] at h
    refine Q.map (A.zT (gI_of zm228 (e := (266, 3, .ifCond .eq 15, [140])) rfl) (decide_eq_true hc1)) ?_
    refine Q.run zm228 1 (i' := 141) (ls' := [some (.ref 121), some (.int x1), some (.int x2), some (.int x3), some (.int x4), some (.int x5), some (.int x6), some (.int x7), some (.int x8), some (.int x9), some (.int x10), some (.int x11), some (.int y0)]) (st' := [.int x2]) rfl ?_
    by_cases hc2 : x2 = 0
    · rw [if_pos hc2] at h
      refine Q.map (A.zT (gI_of zm228 (e := (282, 3, .ifCond .eq 24, [153])) rfl) (decide_eq_true hc2)) ?_
      refine Q.run zm228 1 (i' := 154) (ls' := [some (.ref 121), some (.int x1), some (.int x2), some (.int x3), some (.int x4), some (.int x5), some (.int x6), some (.int x7), some (.int x8), some (.int x9), some (.int x10), some (.int x11), some (.int y0)]) (st' := [.ref 121]) rfl ?_
      refine Q.map (A.gf (gI_of zm228 (e := (307, 3, .getfield 41, [9, 13])) rfl) (hl.lt (a := 121) (by decide)) (hl.T (a := 121) (p := (9, 45)) 43 rfl rfl) (by decide) (hl.R 33 rfl)) ?_
      refine Q.run zm228 2 (i' := 157) (ls' := [some (.ref 121), some (.int x1), some (.int x2), some (.int x3), some (.int x4), some (.int x5), some (.int x6), some (.int x7), some (.int x8), some (.int x9), some (.int x10), some (.int x11), some (.int y0)]) (st' := [.int x10, .int x8, .ref 132]) rfl ?_
      obtain ⟨hc3, h⟩ := ite_so h
      obtain ⟨s4, hs5, h⟩ := nx_so h
      refine Q.is hs5 rfl (gI_of zm228 (e := (314, 1, .iastore, [])) rfl) (hl.lt (a := 132) (by decide)) (by decide) (hl.T (a := 132) (p := (100, 1152)) 54 rfl rfl) hc3 ?_
      have hl6 : Ly tt cc s4 := by rw [hs5]; exact hl.wId (by decide)
      refine Q.run zm228 1 (i' := 159) (ls' := [some (.ref 121), some (.int x1), some (.int x2), some (.int x3), some (.int x4), some (.int x5), some (.int x6), some (.int x7), some (.int x8), some (.int x9), some (.int x10), some (.int x11), some (.int y0)]) (st' := [.ref 121]) rfl ?_
      refine Q.map (A.gf (gI_of zm228 (e := (316, 3, .getfield 47, [9, 15])) rfl) (hl6.lt (a := 121) (by decide)) (hl6.T (a := 121) (p := (9, 45)) 43 rfl rfl) (by decide) (hl6.R 35 rfl)) ?_
      refine Q.run zm228 2 (i' := 162) (ls' := [some (.ref 121), some (.int x1), some (.int x2), some (.int x3), some (.int x4), some (.int x5), some (.int x6), some (.int x7), some (.int x8), some (.int x9), some (.int x10), some (.int x11), some (.int y0)]) (st' := [.int x11, .int x8, .ref 134]) rfl ?_
      obtain ⟨hc7, h⟩ := ite_so h
      obtain ⟨s8, hs9, h⟩ := nx_so h
      refine Q.is hs9 rfl (gI_of zm228 (e := (323, 1, .iastore, [])) rfl) (hl6.lt (a := 134) (by decide)) (by decide) (hl6.T (a := 134) (p := (100, 1152)) 56 rfl rfl) hc7 ?_
      have hl10 : Ly tt cc s8 := by rw [hs9]; exact hl6.wId (by decide)
      exact dt228_163 hd hk36 hk43 hl10  h
    · rw [if_neg hc2] at h
      refine Q.map (A.zF (gI_of zm228 (e := (282, 3, .ifCond .eq 24, [153])) rfl) (fun q => hc2 (of_decide_eq_true q))) ?_
      refine Q.run zm228 1 (i' := 143) (ls' := [some (.ref 121), some (.int x1), some (.int x2), some (.int x3), some (.int x4), some (.int x5), some (.int x6), some (.int x7), some (.int x8), some (.int x9), some (.int x10), some (.int x11), some (.int y0)]) (st' := [.ref 121]) rfl ?_
      refine Q.map (A.gf (gI_of zm228 (e := (286, 3, .getfield 38, [9, 12])) rfl) (hl.lt (a := 121) (by decide)) (hl.T (a := 121) (p := (9, 45)) 43 rfl rfl) (by decide) (hl.R 32 rfl)) ?_
      refine Q.run zm228 2 (i' := 146) (ls' := [some (.ref 121), some (.int x1), some (.int x2), some (.int x3), some (.int x4), some (.int x5), some (.int x6), some (.int x7), some (.int x8), some (.int x9), some (.int x10), some (.int x11), some (.int y0)]) (st' := [.int x10, .int x8, .ref 131]) rfl ?_
      obtain ⟨hc11, h⟩ := ite_so h
      obtain ⟨s12, hs13, h⟩ := nx_so h
      refine Q.is hs13 rfl (gI_of zm228 (e := (293, 1, .iastore, [])) rfl) (hl.lt (a := 131) (by decide)) (by decide) (hl.T (a := 131) (p := (100, 1152)) 53 rfl rfl) hc11 ?_
      have hl14 : Ly tt cc s12 := by rw [hs13]; exact hl.wId (by decide)
      refine Q.run zm228 1 (i' := 148) (ls' := [some (.ref 121), some (.int x1), some (.int x2), some (.int x3), some (.int x4), some (.int x5), some (.int x6), some (.int x7), some (.int x8), some (.int x9), some (.int x10), some (.int x11), some (.int y0)]) (st' := [.ref 121]) rfl ?_
      refine Q.map (A.gf (gI_of zm228 (e := (295, 3, .getfield 44, [9, 14])) rfl) (hl14.lt (a := 121) (by decide)) (hl14.T (a := 121) (p := (9, 45)) 43 rfl rfl) (by decide) (hl14.R 34 rfl)) ?_
      refine Q.run zm228 2 (i' := 151) (ls' := [some (.ref 121), some (.int x1), some (.int x2), some (.int x3), some (.int x4), some (.int x5), some (.int x6), some (.int x7), some (.int x8), some (.int x9), some (.int x10), some (.int x11), some (.int y0)]) (st' := [.int x11, .int x8, .ref 133]) rfl ?_
      obtain ⟨hc15, h⟩ := ite_so h
      obtain ⟨s16, hs17, h⟩ := nx_so h
      refine Q.is hs17 rfl (gI_of zm228 (e := (302, 1, .iastore, [])) rfl) (hl14.lt (a := 133) (by decide)) (by decide) (hl14.T (a := 133) (p := (100, 1152)) 55 rfl rfl) hc15 ?_
      have hl18 : Ly tt cc s16 := by rw [hs17]; exact hl14.wId (by decide)
      refine Q.run zm228 1 (i' := 163) (ls' := [some (.ref 121), some (.int x1), some (.int x2), some (.int x3), some (.int x4), some (.int x5), some (.int x6), some (.int x7), some (.int x8), some (.int x9), some (.int x10), some (.int x11), some (.int y0)]) (st' := []) rfl ?_
      exact dt228_163 hd hk36 hk43 hl18  h
  · rw [if_neg hc1] at h
    refine Q.map (A.zF (gI_of zm228 (e := (266, 3, .ifCond .eq 15, [140])) rfl) (fun q => hc1 (of_decide_eq_true q))) ?_
    refine Q.run zm228 2 (i' := 137) (ls' := [some (.ref 121), some (.int x1), some (.int x2), some (.int x3), some (.int x4), some (.int x5), some (.int x6), some (.int x7), some (.int x8), some (.int x9), some (.int x10), some (.int x11), some (.int y0)]) (st' := [.int x8, .ref 121]) rfl ?_
    obtain ⟨s21, hc20, h⟩ := bu_so h
    have hq19 : Q 2 sio tt cc d 183 0 [some (.ref 121), some (.int x8)] [] s (.inl none, s21) := dt183 (by omega) hl  hc20
    refine Q.callV (gC_vi zm228 (show zM228.2.2.2.2.2[137]? = some (272, 3, .invokevirtual 131, [0, 183, 1, 9]) from rfl) zm183 (hl.lt (a := 121) (by decide)) (hl.T (a := 121) (p := (9, 45)) 43 rfl rfl) rfl (show aCr 1 121 [.int x8, .ref 121] 2 = some ([some (.ref 121), some (.int x8)], []) from rfl)) hq19 ?_
    refine Q.run zm228 2 (i' := 163) (ls' := [some (.ref 121), some (.int x1), some (.int x2), some (.int x3), some (.int x4), some (.int x5), some (.int (x6 + 1)), some (.int x7), some (.int x8), some (.int x9), some (.int x10), some (.int x11), some (.int y0)]) (st' := []) rfl ?_
    exact dt228_163 hd hk36 hk43 hq19.1  h
def dm228_129 (k36 : Int32 → Int32 → Int32 → Int32 → Int32 → Int32 → Int32 → aS → Option (Int32 × aS)) (k43 : Int32 → Int32 → Int32 → Int32 → Int32 → Int32 → Int32 → Int32 → aS → Option (Int32 × aS)) (x1 : Int32) (x2 : Int32) (x3 : Int32) (x4 : Int32) (x5 : Int32) (x6 : Int32) (x7 : Int32) (x8 : Int32) (x10 : Int32) (x11 : Int32) (s : aS) : Option (Int32 × aS) :=
  dm228_132 k36 k43 x1 x2 x3 x4 x5 x6 x7 x8 x10 x11 1 s
set_option maxRecDepth 100000 in
theorem dt228_129 {sio : Bool} {tt : Nat} {cc : Nat → Nat → Int32} {d : Nat} (hd : 1 ≤ d) {k36 : Int32 → Int32 → Int32 → Int32 → Int32 → Int32 → Int32 → aS → Option (Int32 × aS)} (hk36 : ∀ {x1 : Int32} {x2 : Int32} {x3 : Int32} {x4 : Int32} {x5 : Int32} {x6 : Int32} {x7 : Int32} {g8 : Option Value} {g9 : Option Value} {g10 : Option Value} {g11 : Option Value} {g12 : Option Value} {s : aS}, Ly tt cc s → ∀ {o : Int32 × aS}, k36 x1 x2 x3 x4 x5 x6 x7 s = some o → Q 2 sio tt cc d 228 36 [some (.ref 121), some (.int x1), some (.int x2), some (.int x3), some (.int x4), some (.int x5), some (.int x6), some (.int x7), g8, g9, g10, g11, g12] [] s (.inl (some (.int o.1)), o.2)) {k43 : Int32 → Int32 → Int32 → Int32 → Int32 → Int32 → Int32 → Int32 → aS → Option (Int32 × aS)} (hk43 : ∀ {x1 : Int32} {x2 : Int32} {x3 : Int32} {x4 : Int32} {x5 : Int32} {x6 : Int32} {x7 : Int32} {x8 : Int32} {g9 : Option Value} {g10 : Option Value} {g11 : Option Value} {g12 : Option Value} {s : aS}, Ly tt cc s → ∀ {o : Int32 × aS}, k43 x1 x2 x3 x4 x5 x6 x7 x8 s = some o → Q 2 sio tt cc d 228 43 [some (.ref 121), some (.int x1), some (.int x2), some (.int x3), some (.int x4), some (.int x5), some (.int x6), some (.int x7), some (.int x8), g9, g10, g11, g12] [] s (.inl (some (.int o.1)), o.2)) {x1 : Int32} {x2 : Int32} {x3 : Int32} {x4 : Int32} {x5 : Int32} {x6 : Int32} {x7 : Int32} {x8 : Int32} {x10 : Int32} {x11 : Int32} {x9 : Int32} {g12 : Option Value} {s : aS} (hl : Ly tt cc s) {o : Int32 × aS} (h : dm228_129 k36 k43 x1 x2 x3 x4 x5 x6 x7 x8 x10 x11 s = some o) : Q 2 sio tt cc d 228 129 [some (.ref 121), some (.int x1), some (.int x2), some (.int x3), some (.int x4), some (.int x5), some (.int x6), some (.int x7), some (.int x8), some (.int x9), some (.int x10), some (.int x11), g12] [] s (.inl (some (.int o.1)), o.2) := by
  unfold dm228_129 at h
  obtain ⟨d, rfl⟩ : ∃ e, d = e + 1 := ⟨d - 1, by omega⟩
  refine Q.run zm228 2 (i' := 132) (ls' := [some (.ref 121), some (.int x1), some (.int x2), some (.int x3), some (.int x4), some (.int x5), some (.int x6), some (.int x7), some (.int x8), some (.int x9), some (.int x10), some (.int x11), g12]) (st' := [.int 1]) rfl ?_
  exact dt228_132 hd hk36 hk43 hl  h
def dm228_118 (k36 : Int32 → Int32 → Int32 → Int32 → Int32 → Int32 → Int32 → aS → Option (Int32 × aS)) (k43 : Int32 → Int32 → Int32 → Int32 → Int32 → Int32 → Int32 → Int32 → aS → Option (Int32 × aS)) (x1 : Int32) (x2 : Int32) (x3 : Int32) (x4 : Int32) (x5 : Int32) (x6 : Int32) (x7 : Int32) (x8 : Int32) (x10 : Int32) (y0 : Int32) (s : aS) : Option (Int32 × aS) :=
  bu (dm230 y0 x3 x4 x5) fun r3 =>
  if r3 < x10 then
    dm228_129 k36 k43 x1 x2 x3 x4 x5 x6 x7 x8 x10 r3 s
  else
    if x10 ≤ x5 then
      dm228_132 k36 k43 x1 x2 x3 x4 x5 x6 x7 x8 x10 r3 0 s
    else
      dm228_129 k36 k43 x1 x2 x3 x4 x5 x6 x7 x8 x10 r3 s
set_option maxRecDepth 100000 in
theorem dt228_118 {sio : Bool} {tt : Nat} {cc : Nat → Nat → Int32} {d : Nat} (hd : 1 ≤ d) {k36 : Int32 → Int32 → Int32 → Int32 → Int32 → Int32 → Int32 → aS → Option (Int32 × aS)} (hk36 : ∀ {x1 : Int32} {x2 : Int32} {x3 : Int32} {x4 : Int32} {x5 : Int32} {x6 : Int32} {x7 : Int32} {g8 : Option Value} {g9 : Option Value} {g10 : Option Value} {g11 : Option Value} {g12 : Option Value} {s : aS}, Ly tt cc s → ∀ {o : Int32 × aS}, k36 x1 x2 x3 x4 x5 x6 x7 s = some o → Q 2 sio tt cc d 228 36 [some (.ref 121), some (.int x1), some (.int x2), some (.int x3), some (.int x4), some (.int x5), some (.int x6), some (.int x7), g8, g9, g10, g11, g12] [] s (.inl (some (.int o.1)), o.2)) {k43 : Int32 → Int32 → Int32 → Int32 → Int32 → Int32 → Int32 → Int32 → aS → Option (Int32 × aS)} (hk43 : ∀ {x1 : Int32} {x2 : Int32} {x3 : Int32} {x4 : Int32} {x5 : Int32} {x6 : Int32} {x7 : Int32} {x8 : Int32} {g9 : Option Value} {g10 : Option Value} {g11 : Option Value} {g12 : Option Value} {s : aS}, Ly tt cc s → ∀ {o : Int32 × aS}, k43 x1 x2 x3 x4 x5 x6 x7 x8 s = some o → Q 2 sio tt cc d 228 43 [some (.ref 121), some (.int x1), some (.int x2), some (.int x3), some (.int x4), some (.int x5), some (.int x6), some (.int x7), some (.int x8), g9, g10, g11, g12] [] s (.inl (some (.int o.1)), o.2)) {x1 : Int32} {x2 : Int32} {x3 : Int32} {x4 : Int32} {x5 : Int32} {x6 : Int32} {x7 : Int32} {x8 : Int32} {x10 : Int32} {y0 : Int32} {x9 : Int32} {g11 : Option Value} {g12 : Option Value} {s : aS} (hl : Ly tt cc s) {o : Int32 × aS} (h : dm228_118 k36 k43 x1 x2 x3 x4 x5 x6 x7 x8 x10 y0 s = some o) : Q 2 sio tt cc d 228 118 [some (.ref 121), some (.int x1), some (.int x2), some (.int x3), some (.int x4), some (.int x5), some (.int x6), some (.int x7), some (.int x8), some (.int x9), some (.int x10), g11, g12] [.int y0] s (.inl (some (.int o.1)), o.2) := by
  unfold dm228_118 at h
  obtain ⟨d, rfl⟩ : ∃ e, d = e + 1 := ⟨d - 1, by omega⟩
  refine Q.run zm228 3 (i' := 121) (ls' := [some (.ref 121), some (.int x1), some (.int x2), some (.int x3), some (.int x4), some (.int x5), some (.int x6), some (.int x7), some (.int x8), some (.int x9), some (.int x10), g11, g12]) (st' := [.int x5, .int x4, .int x3, .int y0]) rfl ?_
  obtain ⟨r3, hc2, h⟩ := bu_so h
  have hq1 : Q 2 sio tt cc d 230 0 [some (.int y0), some (.int x3), some (.int x4), some (.int x5)] [] s (.inl (some (.int r3)), s) := dt230 (by omega) hl  hc2
  refine Q.callI (gC_st zm228 (show zM228.2.2.2.2.2[121]? = some (238, 3, .invokestatic 324, [0, 230, 4]) from rfl) zm230 (show aC 4 [.int x5, .int x4, .int x3, .int y0] 4 = some ([some (.int y0), some (.int x3), some (.int x4), some (.int x5)], []) from rfl)) hq1 ?_
  refine Q.run zm228 3 (i' := 125) (ls' := [some (.ref 121), some (.int x1), some (.int x2), some (.int x3), some (.int x4), some (.int x5), some (.int x6), some (.int x7), some (.int x8), some (.int x9), some (.int x10), some (.int r3), g12]) (st' := [.int r3, .int x10]) rfl ?_
  by_cases hc4 : r3 < x10
  · rw [if_pos hc4] at h
    refine Q.map (A.bT (gI_of zm228 (e := (247, 3, .if_icmp .gt 10, [129])) rfl) (decide_eq_true hc4)) ?_
    exact dt228_129 hd hk36 hk43 hl  h
  · rw [if_neg hc4] at h
    refine Q.map (A.bF (gI_of zm228 (e := (247, 3, .if_icmp .gt 10, [129])) rfl) (fun q => hc4 (of_decide_eq_true q))) ?_
    refine Q.run zm228 2 (i' := 128) (ls' := [some (.ref 121), some (.int x1), some (.int x2), some (.int x3), some (.int x4), some (.int x5), some (.int x6), some (.int x7), some (.int x8), some (.int x9), some (.int x10), some (.int r3), g12]) (st' := [.int x5, .int x10]) rfl ?_
    by_cases hc5 : x10 ≤ x5
    · rw [if_pos hc5] at h
      refine Q.map (A.bT (gI_of zm228 (e := (254, 3, .if_icmp .le 7, [131])) rfl) (decide_eq_true hc5)) ?_
      refine Q.run zm228 1 (i' := 132) (ls' := [some (.ref 121), some (.int x1), some (.int x2), some (.int x3), some (.int x4), some (.int x5), some (.int x6), some (.int x7), some (.int x8), some (.int x9), some (.int x10), some (.int r3), g12]) (st' := [.int 0]) rfl ?_
      exact dt228_132 hd hk36 hk43 hl  h
    · rw [if_neg hc5] at h
      refine Q.map (A.bF (gI_of zm228 (e := (254, 3, .if_icmp .le 7, [131])) rfl) (fun q => hc5 (of_decide_eq_true q))) ?_
      exact dt228_129 hd hk36 hk43 hl  h
def dm228_103 (k36 : Int32 → Int32 → Int32 → Int32 → Int32 → Int32 → Int32 → aS → Option (Int32 × aS)) (k43 : Int32 → Int32 → Int32 → Int32 → Int32 → Int32 → Int32 → Int32 → aS → Option (Int32 × aS)) (x1 : Int32) (x2 : Int32) (x3 : Int32) (x4 : Int32) (x5 : Int32) (x6 : Int32) (x7 : Int32) (x8 : Int32) (y0 : Int32) (s : aS) : Option (Int32 × aS) :=
  bu (dm229 y0 x3 x4) fun r3 =>
  if x2 = 0 then
    if aB x8 1152 then
      dm228_118 k36 k43 x1 x2 x3 x4 x5 x6 x7 x8 r3 (sI s 134 (jN x8)) s
    else none
  else
    if aB x8 1152 then
      dm228_118 k36 k43 x1 x2 x3 x4 x5 x6 x7 x8 r3 (sI s 133 (jN x8)) s
    else none
set_option maxRecDepth 100000 in
theorem dt228_103 {sio : Bool} {tt : Nat} {cc : Nat → Nat → Int32} {d : Nat} (hd : 1 ≤ d) {k36 : Int32 → Int32 → Int32 → Int32 → Int32 → Int32 → Int32 → aS → Option (Int32 × aS)} (hk36 : ∀ {x1 : Int32} {x2 : Int32} {x3 : Int32} {x4 : Int32} {x5 : Int32} {x6 : Int32} {x7 : Int32} {g8 : Option Value} {g9 : Option Value} {g10 : Option Value} {g11 : Option Value} {g12 : Option Value} {s : aS}, Ly tt cc s → ∀ {o : Int32 × aS}, k36 x1 x2 x3 x4 x5 x6 x7 s = some o → Q 2 sio tt cc d 228 36 [some (.ref 121), some (.int x1), some (.int x2), some (.int x3), some (.int x4), some (.int x5), some (.int x6), some (.int x7), g8, g9, g10, g11, g12] [] s (.inl (some (.int o.1)), o.2)) {k43 : Int32 → Int32 → Int32 → Int32 → Int32 → Int32 → Int32 → Int32 → aS → Option (Int32 × aS)} (hk43 : ∀ {x1 : Int32} {x2 : Int32} {x3 : Int32} {x4 : Int32} {x5 : Int32} {x6 : Int32} {x7 : Int32} {x8 : Int32} {g9 : Option Value} {g10 : Option Value} {g11 : Option Value} {g12 : Option Value} {s : aS}, Ly tt cc s → ∀ {o : Int32 × aS}, k43 x1 x2 x3 x4 x5 x6 x7 x8 s = some o → Q 2 sio tt cc d 228 43 [some (.ref 121), some (.int x1), some (.int x2), some (.int x3), some (.int x4), some (.int x5), some (.int x6), some (.int x7), some (.int x8), g9, g10, g11, g12] [] s (.inl (some (.int o.1)), o.2)) {x1 : Int32} {x2 : Int32} {x3 : Int32} {x4 : Int32} {x5 : Int32} {x6 : Int32} {x7 : Int32} {x8 : Int32} {y0 : Int32} {x9 : Int32} {g10 : Option Value} {g11 : Option Value} {g12 : Option Value} {s : aS} (hl : Ly tt cc s) {o : Int32 × aS} (h : dm228_103 k36 k43 x1 x2 x3 x4 x5 x6 x7 x8 y0 s = some o) : Q 2 sio tt cc d 228 103 [some (.ref 121), some (.int x1), some (.int x2), some (.int x3), some (.int x4), some (.int x5), some (.int x6), some (.int x7), some (.int x8), some (.int x9), g10, g11, g12] [.int y0] s (.inl (some (.int o.1)), o.2) := by
  unfold dm228_103 at h
  obtain ⟨d, rfl⟩ : ∃ e, d = e + 1 := ⟨d - 1, by omega⟩
  refine Q.run zm228 2 (i' := 105) (ls' := [some (.ref 121), some (.int x1), some (.int x2), some (.int x3), some (.int x4), some (.int x5), some (.int x6), some (.int x7), some (.int x8), some (.int x9), g10, g11, g12]) (st' := [.int x4, .int x3, .int y0]) rfl ?_
  obtain ⟨r3, hc2, h⟩ := bu_so h
  have hq1 : Q 2 sio tt cc d 229 0 [some (.int y0), some (.int x3), some (.int x4)] [] s (.inl (some (.int r3)), s) := dt229 (by omega) hl  hc2
  refine Q.callI (gC_st zm228 (show zM228.2.2.2.2.2[105]? = some (207, 3, .invokestatic 320, [0, 229, 3]) from rfl) zm229 (show aC 3 [.int x4, .int x3, .int y0] 3 = some ([some (.int y0), some (.int x3), some (.int x4)], []) from rfl)) hq1 ?_
  refine Q.run zm228 2 (i' := 108) (ls' := [some (.ref 121), some (.int x1), some (.int x2), some (.int x3), some (.int x4), some (.int x5), some (.int x6), some (.int x7), some (.int x8), some (.int x9), some (.int r3), g11, g12]) (st' := [.int x2]) rfl ?_
  by_cases hc4 : x2 = 0
  · rw [if_pos hc4] at h
    refine Q.map (A.zT (gI_of zm228 (e := (213, 3, .ifCond .eq 13, [114])) rfl) (decide_eq_true hc4)) ?_
    refine Q.run zm228 1 (i' := 115) (ls' := [some (.ref 121), some (.int x1), some (.int x2), some (.int x3), some (.int x4), some (.int x5), some (.int x6), some (.int x7), some (.int x8), some (.int x9), some (.int r3), g11, g12]) (st' := [.ref 121]) rfl ?_
    refine Q.map (A.gf (gI_of zm228 (e := (227, 3, .getfield 47, [9, 15])) rfl) (hl.lt (a := 121) (by decide)) (hl.T (a := 121) (p := (9, 45)) 43 rfl rfl) (by decide) (hl.R 35 rfl)) ?_
    refine Q.run zm228 1 (i' := 117) (ls' := [some (.ref 121), some (.int x1), some (.int x2), some (.int x3), some (.int x4), some (.int x5), some (.int x6), some (.int x7), some (.int x8), some (.int x9), some (.int r3), g11, g12]) (st' := [.int x8, .ref 134]) rfl ?_
    obtain ⟨hc5, h⟩ := ite_so h
    refine Q.map (A.ia (gI_of zm228 (e := (232, 1, .iaload, [])) rfl) (hl.lt (a := 134) (by decide)) (hl.T (a := 134) (p := (100, 1152)) 56 rfl rfl) hc5) ?_
    exact dt228_118 hd hk36 hk43 hl  h
  · rw [if_neg hc4] at h
    refine Q.map (A.zF (gI_of zm228 (e := (213, 3, .ifCond .eq 13, [114])) rfl) (fun q => hc4 (of_decide_eq_true q))) ?_
    refine Q.run zm228 1 (i' := 110) (ls' := [some (.ref 121), some (.int x1), some (.int x2), some (.int x3), some (.int x4), some (.int x5), some (.int x6), some (.int x7), some (.int x8), some (.int x9), some (.int r3), g11, g12]) (st' := [.ref 121]) rfl ?_
    refine Q.map (A.gf (gI_of zm228 (e := (217, 3, .getfield 44, [9, 14])) rfl) (hl.lt (a := 121) (by decide)) (hl.T (a := 121) (p := (9, 45)) 43 rfl rfl) (by decide) (hl.R 34 rfl)) ?_
    refine Q.run zm228 1 (i' := 112) (ls' := [some (.ref 121), some (.int x1), some (.int x2), some (.int x3), some (.int x4), some (.int x5), some (.int x6), some (.int x7), some (.int x8), some (.int x9), some (.int r3), g11, g12]) (st' := [.int x8, .ref 133]) rfl ?_
    obtain ⟨hc6, h⟩ := ite_so h
    refine Q.map (A.ia (gI_of zm228 (e := (222, 1, .iaload, [])) rfl) (hl.lt (a := 133) (by decide)) (hl.T (a := 133) (p := (100, 1152)) 55 rfl rfl) hc6) ?_
    refine Q.run zm228 1 (i' := 118) (ls' := [some (.ref 121), some (.int x1), some (.int x2), some (.int x3), some (.int x4), some (.int x5), some (.int x6), some (.int x7), some (.int x8), some (.int x9), some (.int r3), g11, g12]) (st' := [.int (sI s 133 (jN x8))]) rfl ?_
    exact dt228_118 hd hk36 hk43 hl  h
def dm228_89 (k36 : Int32 → Int32 → Int32 → Int32 → Int32 → Int32 → Int32 → aS → Option (Int32 × aS)) (k43 : Int32 → Int32 → Int32 → Int32 → Int32 → Int32 → Int32 → Int32 → aS → Option (Int32 × aS)) (x1 : Int32) (x2 : Int32) (x3 : Int32) (x4 : Int32) (x5 : Int32) (x6 : Int32) (x7 : Int32) (x8 : Int32) (y0 : Int32) (s : aS) : Option (Int32 × aS) :=
  if y0 = 0 then
    dm228_163 k36 k43 x1 x2 x3 x4 x5 x6 x7 x8 s
  else
    if x2 = 0 then
      if aB x8 1152 then
        dm228_103 k36 k43 x1 x2 x3 x4 x5 x6 x7 x8 (sI s 132 (jN x8)) s
      else none
    else
      if aB x8 1152 then
        dm228_103 k36 k43 x1 x2 x3 x4 x5 x6 x7 x8 (sI s 131 (jN x8)) s
      else none
set_option maxRecDepth 100000 in
theorem dt228_89 {sio : Bool} {tt : Nat} {cc : Nat → Nat → Int32} {d : Nat} (hd : 1 ≤ d) {k36 : Int32 → Int32 → Int32 → Int32 → Int32 → Int32 → Int32 → aS → Option (Int32 × aS)} (hk36 : ∀ {x1 : Int32} {x2 : Int32} {x3 : Int32} {x4 : Int32} {x5 : Int32} {x6 : Int32} {x7 : Int32} {g8 : Option Value} {g9 : Option Value} {g10 : Option Value} {g11 : Option Value} {g12 : Option Value} {s : aS}, Ly tt cc s → ∀ {o : Int32 × aS}, k36 x1 x2 x3 x4 x5 x6 x7 s = some o → Q 2 sio tt cc d 228 36 [some (.ref 121), some (.int x1), some (.int x2), some (.int x3), some (.int x4), some (.int x5), some (.int x6), some (.int x7), g8, g9, g10, g11, g12] [] s (.inl (some (.int o.1)), o.2)) {k43 : Int32 → Int32 → Int32 → Int32 → Int32 → Int32 → Int32 → Int32 → aS → Option (Int32 × aS)} (hk43 : ∀ {x1 : Int32} {x2 : Int32} {x3 : Int32} {x4 : Int32} {x5 : Int32} {x6 : Int32} {x7 : Int32} {x8 : Int32} {g9 : Option Value} {g10 : Option Value} {g11 : Option Value} {g12 : Option Value} {s : aS}, Ly tt cc s → ∀ {o : Int32 × aS}, k43 x1 x2 x3 x4 x5 x6 x7 x8 s = some o → Q 2 sio tt cc d 228 43 [some (.ref 121), some (.int x1), some (.int x2), some (.int x3), some (.int x4), some (.int x5), some (.int x6), some (.int x7), some (.int x8), g9, g10, g11, g12] [] s (.inl (some (.int o.1)), o.2)) {x1 : Int32} {x2 : Int32} {x3 : Int32} {x4 : Int32} {x5 : Int32} {x6 : Int32} {x7 : Int32} {x8 : Int32} {y0 : Int32} {g9 : Option Value} {g10 : Option Value} {g11 : Option Value} {g12 : Option Value} {s : aS} (hl : Ly tt cc s) {o : Int32 × aS} (h : dm228_89 k36 k43 x1 x2 x3 x4 x5 x6 x7 x8 y0 s = some o) : Q 2 sio tt cc d 228 89 [some (.ref 121), some (.int x1), some (.int x2), some (.int x3), some (.int x4), some (.int x5), some (.int x6), some (.int x7), some (.int x8), g9, g10, g11, g12] [.int y0] s (.inl (some (.int o.1)), o.2) := by
  unfold dm228_89 at h
  obtain ⟨d, rfl⟩ : ∃ e, d = e + 1 := ⟨d - 1, by omega⟩
  refine Q.run zm228 2 (i' := 91) (ls' := [some (.ref 121), some (.int x1), some (.int x2), some (.int x3), some (.int x4), some (.int x5), some (.int x6), some (.int x7), some (.int x8), some (.int y0), g10, g11, g12]) (st' := [.int y0]) rfl ?_
  by_cases hc1 : y0 = 0
  · rw [if_pos hc1] at h
    refine Q.map (A.zT (gI_of zm228 (e := (180, 3, .ifCond .eq 144, [163])) rfl) (decide_eq_true hc1)) ?_
    exact dt228_163 hd hk36 hk43 hl  h
  · rw [if_neg hc1] at h
    refine Q.map (A.zF (gI_of zm228 (e := (180, 3, .ifCond .eq 144, [163])) rfl) (fun q => hc1 (of_decide_eq_true q))) ?_
    refine Q.run zm228 1 (i' := 93) (ls' := [some (.ref 121), some (.int x1), some (.int x2), some (.int x3), some (.int x4), some (.int x5), some (.int x6), some (.int x7), some (.int x8), some (.int y0), g10, g11, g12]) (st' := [.int x2]) rfl ?_
    by_cases hc2 : x2 = 0
    · rw [if_pos hc2] at h
      refine Q.map (A.zT (gI_of zm228 (e := (184, 3, .ifCond .eq 13, [99])) rfl) (decide_eq_true hc2)) ?_
      refine Q.run zm228 1 (i' := 100) (ls' := [some (.ref 121), some (.int x1), some (.int x2), some (.int x3), some (.int x4), some (.int x5), some (.int x6), some (.int x7), some (.int x8), some (.int y0), g10, g11, g12]) (st' := [.ref 121]) rfl ?_
      refine Q.map (A.gf (gI_of zm228 (e := (198, 3, .getfield 41, [9, 13])) rfl) (hl.lt (a := 121) (by decide)) (hl.T (a := 121) (p := (9, 45)) 43 rfl rfl) (by decide) (hl.R 33 rfl)) ?_
      refine Q.run zm228 1 (i' := 102) (ls' := [some (.ref 121), some (.int x1), some (.int x2), some (.int x3), some (.int x4), some (.int x5), some (.int x6), some (.int x7), some (.int x8), some (.int y0), g10, g11, g12]) (st' := [.int x8, .ref 132]) rfl ?_
      obtain ⟨hc3, h⟩ := ite_so h
      refine Q.map (A.ia (gI_of zm228 (e := (203, 1, .iaload, [])) rfl) (hl.lt (a := 132) (by decide)) (hl.T (a := 132) (p := (100, 1152)) 54 rfl rfl) hc3) ?_
      exact dt228_103 hd hk36 hk43 hl  h
    · rw [if_neg hc2] at h
      refine Q.map (A.zF (gI_of zm228 (e := (184, 3, .ifCond .eq 13, [99])) rfl) (fun q => hc2 (of_decide_eq_true q))) ?_
      refine Q.run zm228 1 (i' := 95) (ls' := [some (.ref 121), some (.int x1), some (.int x2), some (.int x3), some (.int x4), some (.int x5), some (.int x6), some (.int x7), some (.int x8), some (.int y0), g10, g11, g12]) (st' := [.ref 121]) rfl ?_
      refine Q.map (A.gf (gI_of zm228 (e := (188, 3, .getfield 38, [9, 12])) rfl) (hl.lt (a := 121) (by decide)) (hl.T (a := 121) (p := (9, 45)) 43 rfl rfl) (by decide) (hl.R 32 rfl)) ?_
      refine Q.run zm228 1 (i' := 97) (ls' := [some (.ref 121), some (.int x1), some (.int x2), some (.int x3), some (.int x4), some (.int x5), some (.int x6), some (.int x7), some (.int x8), some (.int y0), g10, g11, g12]) (st' := [.int x8, .ref 131]) rfl ?_
      obtain ⟨hc4, h⟩ := ite_so h
      refine Q.map (A.ia (gI_of zm228 (e := (193, 1, .iaload, [])) rfl) (hl.lt (a := 131) (by decide)) (hl.T (a := 131) (p := (100, 1152)) 53 rfl rfl) hc4) ?_
      refine Q.run zm228 1 (i' := 103) (ls' := [some (.ref 121), some (.int x1), some (.int x2), some (.int x3), some (.int x4), some (.int x5), some (.int x6), some (.int x7), some (.int x8), some (.int y0), g10, g11, g12]) (st' := [.int (sI s 131 (jN x8))]) rfl ?_
      exact dt228_103 hd hk36 hk43 hl  h
def dm228_88 (k36 : Int32 → Int32 → Int32 → Int32 → Int32 → Int32 → Int32 → aS → Option (Int32 × aS)) (k43 : Int32 → Int32 → Int32 → Int32 → Int32 → Int32 → Int32 → Int32 → aS → Option (Int32 × aS)) (x1 : Int32) (x2 : Int32) (x3 : Int32) (x4 : Int32) (x5 : Int32) (x6 : Int32) (x7 : Int32) (x8 : Int32) (s : aS) : Option (Int32 × aS) :=
  dm228_89 k36 k43 x1 x2 x3 x4 x5 x6 x7 x8 0 s
set_option maxRecDepth 100000 in
theorem dt228_88 {sio : Bool} {tt : Nat} {cc : Nat → Nat → Int32} {d : Nat} (hd : 1 ≤ d) {k36 : Int32 → Int32 → Int32 → Int32 → Int32 → Int32 → Int32 → aS → Option (Int32 × aS)} (hk36 : ∀ {x1 : Int32} {x2 : Int32} {x3 : Int32} {x4 : Int32} {x5 : Int32} {x6 : Int32} {x7 : Int32} {g8 : Option Value} {g9 : Option Value} {g10 : Option Value} {g11 : Option Value} {g12 : Option Value} {s : aS}, Ly tt cc s → ∀ {o : Int32 × aS}, k36 x1 x2 x3 x4 x5 x6 x7 s = some o → Q 2 sio tt cc d 228 36 [some (.ref 121), some (.int x1), some (.int x2), some (.int x3), some (.int x4), some (.int x5), some (.int x6), some (.int x7), g8, g9, g10, g11, g12] [] s (.inl (some (.int o.1)), o.2)) {k43 : Int32 → Int32 → Int32 → Int32 → Int32 → Int32 → Int32 → Int32 → aS → Option (Int32 × aS)} (hk43 : ∀ {x1 : Int32} {x2 : Int32} {x3 : Int32} {x4 : Int32} {x5 : Int32} {x6 : Int32} {x7 : Int32} {x8 : Int32} {g9 : Option Value} {g10 : Option Value} {g11 : Option Value} {g12 : Option Value} {s : aS}, Ly tt cc s → ∀ {o : Int32 × aS}, k43 x1 x2 x3 x4 x5 x6 x7 x8 s = some o → Q 2 sio tt cc d 228 43 [some (.ref 121), some (.int x1), some (.int x2), some (.int x3), some (.int x4), some (.int x5), some (.int x6), some (.int x7), some (.int x8), g9, g10, g11, g12] [] s (.inl (some (.int o.1)), o.2)) {x1 : Int32} {x2 : Int32} {x3 : Int32} {x4 : Int32} {x5 : Int32} {x6 : Int32} {x7 : Int32} {x8 : Int32} {g9 : Option Value} {g10 : Option Value} {g11 : Option Value} {g12 : Option Value} {s : aS} (hl : Ly tt cc s) {o : Int32 × aS} (h : dm228_88 k36 k43 x1 x2 x3 x4 x5 x6 x7 x8 s = some o) : Q 2 sio tt cc d 228 88 [some (.ref 121), some (.int x1), some (.int x2), some (.int x3), some (.int x4), some (.int x5), some (.int x6), some (.int x7), some (.int x8), g9, g10, g11, g12] [] s (.inl (some (.int o.1)), o.2) := by
  unfold dm228_88 at h
  obtain ⟨d, rfl⟩ : ∃ e, d = e + 1 := ⟨d - 1, by omega⟩
  refine Q.run zm228 1 (i' := 89) (ls' := [some (.ref 121), some (.int x1), some (.int x2), some (.int x3), some (.int x4), some (.int x5), some (.int x6), some (.int x7), some (.int x8), g9, g10, g11, g12]) (st' := [.int 0]) rfl ?_
  exact dt228_89 hd hk36 hk43 hl  h
def dm228_84 (k36 : Int32 → Int32 → Int32 → Int32 → Int32 → Int32 → Int32 → aS → Option (Int32 × aS)) (k43 : Int32 → Int32 → Int32 → Int32 → Int32 → Int32 → Int32 → Int32 → aS → Option (Int32 × aS)) (x1 : Int32) (x2 : Int32) (x3 : Int32) (x4 : Int32) (x5 : Int32) (x6 : Int32) (x7 : Int32) (x8 : Int32) (y0 : Int32) (s : aS) : Option (Int32 × aS) :=
  if y0 = x1 then
    dm228_89 k36 k43 x1 x2 x3 x4 x5 x6 x7 x8 1 s
  else
    dm228_88 k36 k43 x1 x2 x3 x4 x5 x6 x7 x8 s
set_option maxRecDepth 100000 in
theorem dt228_84 {sio : Bool} {tt : Nat} {cc : Nat → Nat → Int32} {d : Nat} (hd : 1 ≤ d) {k36 : Int32 → Int32 → Int32 → Int32 → Int32 → Int32 → Int32 → aS → Option (Int32 × aS)} (hk36 : ∀ {x1 : Int32} {x2 : Int32} {x3 : Int32} {x4 : Int32} {x5 : Int32} {x6 : Int32} {x7 : Int32} {g8 : Option Value} {g9 : Option Value} {g10 : Option Value} {g11 : Option Value} {g12 : Option Value} {s : aS}, Ly tt cc s → ∀ {o : Int32 × aS}, k36 x1 x2 x3 x4 x5 x6 x7 s = some o → Q 2 sio tt cc d 228 36 [some (.ref 121), some (.int x1), some (.int x2), some (.int x3), some (.int x4), some (.int x5), some (.int x6), some (.int x7), g8, g9, g10, g11, g12] [] s (.inl (some (.int o.1)), o.2)) {k43 : Int32 → Int32 → Int32 → Int32 → Int32 → Int32 → Int32 → Int32 → aS → Option (Int32 × aS)} (hk43 : ∀ {x1 : Int32} {x2 : Int32} {x3 : Int32} {x4 : Int32} {x5 : Int32} {x6 : Int32} {x7 : Int32} {x8 : Int32} {g9 : Option Value} {g10 : Option Value} {g11 : Option Value} {g12 : Option Value} {s : aS}, Ly tt cc s → ∀ {o : Int32 × aS}, k43 x1 x2 x3 x4 x5 x6 x7 x8 s = some o → Q 2 sio tt cc d 228 43 [some (.ref 121), some (.int x1), some (.int x2), some (.int x3), some (.int x4), some (.int x5), some (.int x6), some (.int x7), some (.int x8), g9, g10, g11, g12] [] s (.inl (some (.int o.1)), o.2)) {x1 : Int32} {x2 : Int32} {x3 : Int32} {x4 : Int32} {x5 : Int32} {x6 : Int32} {x7 : Int32} {x8 : Int32} {y0 : Int32} {g9 : Option Value} {g10 : Option Value} {g11 : Option Value} {g12 : Option Value} {s : aS} (hl : Ly tt cc s) {o : Int32 × aS} (h : dm228_84 k36 k43 x1 x2 x3 x4 x5 x6 x7 x8 y0 s = some o) : Q 2 sio tt cc d 228 84 [some (.ref 121), some (.int x1), some (.int x2), some (.int x3), some (.int x4), some (.int x5), some (.int x6), some (.int x7), some (.int x8), g9, g10, g11, g12] [.int y0] s (.inl (some (.int o.1)), o.2) := by
  unfold dm228_84 at h
  obtain ⟨d, rfl⟩ : ∃ e, d = e + 1 := ⟨d - 1, by omega⟩
  refine Q.run zm228 1 (i' := 85) (ls' := [some (.ref 121), some (.int x1), some (.int x2), some (.int x3), some (.int x4), some (.int x5), some (.int x6), some (.int x7), some (.int x8), g9, g10, g11, g12]) (st' := [.int x1, .int y0]) rfl ?_
  by_cases hc1 : y0 = x1
  · rw [if_pos hc1] at h
    refine Q.map (A.bF (gI_of zm228 (e := (168, 3, .if_icmp .ne 7, [88])) rfl) (fun q => of_decide_eq_true q hc1)) ?_
    refine Q.run zm228 2 (i' := 89) (ls' := [some (.ref 121), some (.int x1), some (.int x2), some (.int x3), some (.int x4), some (.int x5), some (.int x6), some (.int x7), some (.int x8), g9, g10, g11, g12]) (st' := [.int 1]) rfl ?_
    exact dt228_89 hd hk36 hk43 hl  h
  · rw [if_neg hc1] at h
    refine Q.map (A.bT (gI_of zm228 (e := (168, 3, .if_icmp .ne 7, [88])) rfl) (decide_eq_true hc1)) ?_
    exact dt228_88 hd hk36 hk43 hl  h
def dm228_70 (k36 : Int32 → Int32 → Int32 → Int32 → Int32 → Int32 → Int32 → aS → Option (Int32 × aS)) (k43 : Int32 → Int32 → Int32 → Int32 → Int32 → Int32 → Int32 → Int32 → aS → Option (Int32 × aS)) (x1 : Int32) (x2 : Int32) (x3 : Int32) (x4 : Int32) (x5 : Int32) (x6 : Int32) (x7 : Int32) (x8 : Int32) (s : aS) : Option (Int32 × aS) :=
  if aB x8 1152 then
    if 0 ≤ (sI s 130 (jN x8)) then
      if aB x8 1152 then
        dm228_84 k36 k43 x1 x2 x3 x4 x5 x6 x7 x8 (sI s 130 (jN x8)) s
      else none
    else
      if aB x7 8 then
        dm228_84 k36 k43 x1 x2 x3 x4 x5 x6 x7 x8 (sI s 126 (jN x7)) s
      else none
  else none
set_option maxRecDepth 100000 in
theorem dt228_70 {sio : Bool} {tt : Nat} {cc : Nat → Nat → Int32} {d : Nat} (hd : 1 ≤ d) {k36 : Int32 → Int32 → Int32 → Int32 → Int32 → Int32 → Int32 → aS → Option (Int32 × aS)} (hk36 : ∀ {x1 : Int32} {x2 : Int32} {x3 : Int32} {x4 : Int32} {x5 : Int32} {x6 : Int32} {x7 : Int32} {g8 : Option Value} {g9 : Option Value} {g10 : Option Value} {g11 : Option Value} {g12 : Option Value} {s : aS}, Ly tt cc s → ∀ {o : Int32 × aS}, k36 x1 x2 x3 x4 x5 x6 x7 s = some o → Q 2 sio tt cc d 228 36 [some (.ref 121), some (.int x1), some (.int x2), some (.int x3), some (.int x4), some (.int x5), some (.int x6), some (.int x7), g8, g9, g10, g11, g12] [] s (.inl (some (.int o.1)), o.2)) {k43 : Int32 → Int32 → Int32 → Int32 → Int32 → Int32 → Int32 → Int32 → aS → Option (Int32 × aS)} (hk43 : ∀ {x1 : Int32} {x2 : Int32} {x3 : Int32} {x4 : Int32} {x5 : Int32} {x6 : Int32} {x7 : Int32} {x8 : Int32} {g9 : Option Value} {g10 : Option Value} {g11 : Option Value} {g12 : Option Value} {s : aS}, Ly tt cc s → ∀ {o : Int32 × aS}, k43 x1 x2 x3 x4 x5 x6 x7 x8 s = some o → Q 2 sio tt cc d 228 43 [some (.ref 121), some (.int x1), some (.int x2), some (.int x3), some (.int x4), some (.int x5), some (.int x6), some (.int x7), some (.int x8), g9, g10, g11, g12] [] s (.inl (some (.int o.1)), o.2)) {x1 : Int32} {x2 : Int32} {x3 : Int32} {x4 : Int32} {x5 : Int32} {x6 : Int32} {x7 : Int32} {x8 : Int32} {g9 : Option Value} {g10 : Option Value} {g11 : Option Value} {g12 : Option Value} {s : aS} (hl : Ly tt cc s) {o : Int32 × aS} (h : dm228_70 k36 k43 x1 x2 x3 x4 x5 x6 x7 x8 s = some o) : Q 2 sio tt cc d 228 70 [some (.ref 121), some (.int x1), some (.int x2), some (.int x3), some (.int x4), some (.int x5), some (.int x6), some (.int x7), some (.int x8), g9, g10, g11, g12] [] s (.inl (some (.int o.1)), o.2) := by
  unfold dm228_70 at h
  obtain ⟨d, rfl⟩ : ∃ e, d = e + 1 := ⟨d - 1, by omega⟩
  refine Q.run zm228 1 (i' := 71) (ls' := [some (.ref 121), some (.int x1), some (.int x2), some (.int x3), some (.int x4), some (.int x5), some (.int x6), some (.int x7), some (.int x8), g9, g10, g11, g12]) (st' := [.ref 121]) rfl ?_
  refine Q.map (A.gf (gI_of zm228 (e := (141, 3, .getfield 35, [9, 11])) rfl) (hl.lt (a := 121) (by decide)) (hl.T (a := 121) (p := (9, 45)) 43 rfl rfl) (by decide) (hl.R 31 rfl)) ?_
  refine Q.run zm228 1 (i' := 73) (ls' := [some (.ref 121), some (.int x1), some (.int x2), some (.int x3), some (.int x4), some (.int x5), some (.int x6), some (.int x7), some (.int x8), g9, g10, g11, g12]) (st' := [.int x8, .ref 130]) rfl ?_
  obtain ⟨hc1, h⟩ := ite_so h
  refine Q.map (A.ia (gI_of zm228 (e := (146, 1, .iaload, [])) rfl) (hl.lt (a := 130) (by decide)) (hl.T (a := 130) (p := (100, 1152)) 52 rfl rfl) hc1) ?_
  by_cases hc2 : 0 ≤ (sI s 130 (jN x8))
  · rw [if_pos hc2] at h
    refine Q.map (A.zT (gI_of zm228 (e := (147, 3, .ifCond .ge 13, [80])) rfl) (decide_eq_true hc2)) ?_
    refine Q.run zm228 1 (i' := 81) (ls' := [some (.ref 121), some (.int x1), some (.int x2), some (.int x3), some (.int x4), some (.int x5), some (.int x6), some (.int x7), some (.int x8), g9, g10, g11, g12]) (st' := [.ref 121]) rfl ?_
    refine Q.map (A.gf (gI_of zm228 (e := (161, 3, .getfield 35, [9, 11])) rfl) (hl.lt (a := 121) (by decide)) (hl.T (a := 121) (p := (9, 45)) 43 rfl rfl) (by decide) (hl.R 31 rfl)) ?_
    refine Q.run zm228 1 (i' := 83) (ls' := [some (.ref 121), some (.int x1), some (.int x2), some (.int x3), some (.int x4), some (.int x5), some (.int x6), some (.int x7), some (.int x8), g9, g10, g11, g12]) (st' := [.int x8, .ref 130]) rfl ?_
    obtain ⟨hc3, h⟩ := ite_so h
    refine Q.map (A.ia (gI_of zm228 (e := (166, 1, .iaload, [])) rfl) (hl.lt (a := 130) (by decide)) (hl.T (a := 130) (p := (100, 1152)) 52 rfl rfl) hc3) ?_
    exact dt228_84 hd hk36 hk43 hl  h
  · rw [if_neg hc2] at h
    refine Q.map (A.zF (gI_of zm228 (e := (147, 3, .ifCond .ge 13, [80])) rfl) (fun q => hc2 (of_decide_eq_true q))) ?_
    refine Q.run zm228 1 (i' := 76) (ls' := [some (.ref 121), some (.int x1), some (.int x2), some (.int x3), some (.int x4), some (.int x5), some (.int x6), some (.int x7), some (.int x8), g9, g10, g11, g12]) (st' := [.ref 121]) rfl ?_
    refine Q.map (A.gf (gI_of zm228 (e := (151, 3, .getfield 23, [9, 7])) rfl) (hl.lt (a := 121) (by decide)) (hl.T (a := 121) (p := (9, 45)) 43 rfl rfl) (by decide) (hl.R 27 rfl)) ?_
    refine Q.run zm228 1 (i' := 78) (ls' := [some (.ref 121), some (.int x1), some (.int x2), some (.int x3), some (.int x4), some (.int x5), some (.int x6), some (.int x7), some (.int x8), g9, g10, g11, g12]) (st' := [.int x7, .ref 126]) rfl ?_
    obtain ⟨hc4, h⟩ := ite_so h
    refine Q.map (A.ia (gI_of zm228 (e := (156, 1, .iaload, [])) rfl) (hl.lt (a := 126) (by decide)) (hl.T (a := 126) (p := (100, 8)) 48 rfl rfl) hc4) ?_
    refine Q.run zm228 1 (i' := 84) (ls' := [some (.ref 121), some (.int x1), some (.int x2), some (.int x3), some (.int x4), some (.int x5), some (.int x6), some (.int x7), some (.int x8), g9, g10, g11, g12]) (st' := [.int (sI s 126 (jN x7))]) rfl ?_
    exact dt228_84 hd hk36 hk43 hl  h
def dm228_43 (k36 : Int32 → Int32 → Int32 → Int32 → Int32 → Int32 → Int32 → aS → Option (Int32 × aS)) : Nat → Int32 → Int32 → Int32 → Int32 → Int32 → Int32 → Int32 → Int32 → aS → Option (Int32 × aS)
  | 0, _, _, _, _, _, _, _, _, _ => none
  | n + 1, x1, x2, x3, x4, x5, x6, x7, x8, s =>
    if aB x7 8 then
      if (sI s 125 (jN x7)) = 0 then
        dm228_165 k36 x1 x2 x3 x4 x5 x6 x7 s
      else
        if aB x7 9 then
          if ((128 * x7) + (sI s 127 (jN x7))) ≤ x8 then
            dm228_165 k36 x1 x2 x3 x4 x5 x6 x7 s
          else
            if aB x8 1152 then
              if (sI s 128 (jN x8)) = 4 then
                dm228_70 k36 (dm228_43 k36 n) x1 x2 x3 x4 x5 x6 x7 x8 s
              else
                if aB x8 1152 then
                  if (sI s 128 (jN x8)) = 5 then
                    dm228_70 k36 (dm228_43 k36 n) x1 x2 x3 x4 x5 x6 x7 x8 s
                  else
                    dm228_88 k36 (dm228_43 k36 n) x1 x2 x3 x4 x5 x6 x7 x8 s
                else none
            else none
        else none
    else none
set_option maxRecDepth 100000 in
theorem dt228_43 {sio : Bool} {tt : Nat} {cc : Nat → Nat → Int32} {d : Nat} (hd : 1 ≤ d) {k36 : Int32 → Int32 → Int32 → Int32 → Int32 → Int32 → Int32 → aS → Option (Int32 × aS)} (hk36 : ∀ {x1 : Int32} {x2 : Int32} {x3 : Int32} {x4 : Int32} {x5 : Int32} {x6 : Int32} {x7 : Int32} {g8 : Option Value} {g9 : Option Value} {g10 : Option Value} {g11 : Option Value} {g12 : Option Value} {s : aS}, Ly tt cc s → ∀ {o : Int32 × aS}, k36 x1 x2 x3 x4 x5 x6 x7 s = some o → Q 2 sio tt cc d 228 36 [some (.ref 121), some (.int x1), some (.int x2), some (.int x3), some (.int x4), some (.int x5), some (.int x6), some (.int x7), g8, g9, g10, g11, g12] [] s (.inl (some (.int o.1)), o.2)) : ∀ (n : Nat) {x1 : Int32} {x2 : Int32} {x3 : Int32} {x4 : Int32} {x5 : Int32} {x6 : Int32} {x7 : Int32} {x8 : Int32} {g9 : Option Value} {g10 : Option Value} {g11 : Option Value} {g12 : Option Value} {s : aS} (_ : Ly tt cc s) {o : Int32 × aS} (_ : dm228_43 k36 n x1 x2 x3 x4 x5 x6 x7 x8 s = some o), Q 2 sio tt cc d 228 43 [some (.ref 121), some (.int x1), some (.int x2), some (.int x3), some (.int x4), some (.int x5), some (.int x6), some (.int x7), some (.int x8), g9, g10, g11, g12] [] s (.inl (some (.int o.1)), o.2) := by
  obtain ⟨d, rfl⟩ : ∃ e, d = e + 1 := ⟨d - 1, by omega⟩
  intro n
  induction n with
  | zero => intro x1 x2 x3 x4 x5 x6 x7 x8 g9 g10 g11 g12 s hl o h; rw [dm228_43] at h; cases h
  | succ n ih =>
    intro x1 x2 x3 x4 x5 x6 x7 x8 g9 g10 g11 g12 s hl o h
    rw [dm228_43] at h
    refine Q.run zm228 1 (i' := 44) (ls' := [some (.ref 121), some (.int x1), some (.int x2), some (.int x3), some (.int x4), some (.int x5), some (.int x6), some (.int x7), some (.int x8), g9, g10, g11, g12]) (st' := [.ref 121]) rfl ?_
    refine Q.map (A.gf (gI_of zm228 (e := (90, 3, .getfield 19, [9, 6])) rfl) (hl.lt (a := 121) (by decide)) (hl.T (a := 121) (p := (9, 45)) 43 rfl rfl) (by decide) (hl.R 26 rfl)) ?_
    refine Q.run zm228 1 (i' := 46) (ls' := [some (.ref 121), some (.int x1), some (.int x2), some (.int x3), some (.int x4), some (.int x5), some (.int x6), some (.int x7), some (.int x8), g9, g10, g11, g12]) (st' := [.int x7, .ref 125]) rfl ?_
    obtain ⟨hc1, h⟩ := ite_so h
    refine Q.map (A.ba (gI_of zm228 (e := (95, 1, .baload, [])) rfl) (hl.lt (a := 125) (by decide)) (hl.T (a := 125) (p := (103, 8)) 47 rfl rfl) (by decide) hc1) ?_
    by_cases hc2 : (sI s 125 (jN x7)) = 0
    · rw [if_pos hc2] at h
      refine Q.map (A.zT (gI_of zm228 (e := (96, 3, .ifCond .eq 234, [165])) rfl) (decide_eq_true hc2)) ?_
      exact dt228_165 hd hk36 hl  h
    · rw [if_neg hc2] at h
      refine Q.map (A.zF (gI_of zm228 (e := (96, 3, .ifCond .eq 234, [165])) rfl) (fun q => hc2 (of_decide_eq_true q))) ?_
      refine Q.run zm228 5 (i' := 53) (ls' := [some (.ref 121), some (.int x1), some (.int x2), some (.int x3), some (.int x4), some (.int x5), some (.int x6), some (.int x7), some (.int x8), g9, g10, g11, g12]) (st' := [.ref 121, .int (128 * x7), .int x8]) rfl ?_
      refine Q.map (A.gf (gI_of zm228 (e := (108, 3, .getfield 26, [9, 8])) rfl) (hl.lt (a := 121) (by decide)) (hl.T (a := 121) (p := (9, 45)) 43 rfl rfl) (by decide) (hl.R 28 rfl)) ?_
      refine Q.run zm228 1 (i' := 55) (ls' := [some (.ref 121), some (.int x1), some (.int x2), some (.int x3), some (.int x4), some (.int x5), some (.int x6), some (.int x7), some (.int x8), g9, g10, g11, g12]) (st' := [.int x7, .ref 127, .int (128 * x7), .int x8]) rfl ?_
      obtain ⟨hc3, h⟩ := ite_so h
      refine Q.map (A.ia (gI_of zm228 (e := (113, 1, .iaload, [])) rfl) (hl.lt (a := 127) (by decide)) (hl.T (a := 127) (p := (100, 9)) 49 rfl rfl) hc3) ?_
      refine Q.run zm228 1 (i' := 57) (ls' := [some (.ref 121), some (.int x1), some (.int x2), some (.int x3), some (.int x4), some (.int x5), some (.int x6), some (.int x7), some (.int x8), g9, g10, g11, g12]) (st' := [.int ((128 * x7) + (sI s 127 (jN x7))), .int x8]) rfl ?_
      by_cases hc4 : ((128 * x7) + (sI s 127 (jN x7))) ≤ x8
      · rw [if_pos hc4] at h
        refine Q.map (A.bT (gI_of zm228 (e := (115, 3, .if_icmp .ge 215, [165])) rfl) (decide_eq_true hc4)) ?_
        exact dt228_165 hd hk36 hl  h
      · rw [if_neg hc4] at h
        refine Q.map (A.bF (gI_of zm228 (e := (115, 3, .if_icmp .ge 215, [165])) rfl) (fun q => hc4 (of_decide_eq_true q))) ?_
        refine Q.run zm228 1 (i' := 59) (ls' := [some (.ref 121), some (.int x1), some (.int x2), some (.int x3), some (.int x4), some (.int x5), some (.int x6), some (.int x7), some (.int x8), g9, g10, g11, g12]) (st' := [.ref 121]) rfl ?_
        refine Q.map (A.gf (gI_of zm228 (e := (119, 3, .getfield 29, [9, 9])) rfl) (hl.lt (a := 121) (by decide)) (hl.T (a := 121) (p := (9, 45)) 43 rfl rfl) (by decide) (hl.R 29 rfl)) ?_
        refine Q.run zm228 1 (i' := 61) (ls' := [some (.ref 121), some (.int x1), some (.int x2), some (.int x3), some (.int x4), some (.int x5), some (.int x6), some (.int x7), some (.int x8), g9, g10, g11, g12]) (st' := [.int x8, .ref 128]) rfl ?_
        obtain ⟨hc5, h⟩ := ite_so h
        refine Q.map (A.ia (gI_of zm228 (e := (124, 1, .iaload, [])) rfl) (hl.lt (a := 128) (by decide)) (hl.T (a := 128) (p := (100, 1152)) 50 rfl rfl) hc5) ?_
        refine Q.run zm228 1 (i' := 63) (ls' := [some (.ref 121), some (.int x1), some (.int x2), some (.int x3), some (.int x4), some (.int x5), some (.int x6), some (.int x7), some (.int x8), g9, g10, g11, g12]) (st' := [.int 4, .int (sI s 128 (jN x8))]) rfl ?_
        by_cases hc6 : (sI s 128 (jN x8)) = 4
        · rw [if_pos hc6] at h
          refine Q.map (A.bT (gI_of zm228 (e := (126, 3, .if_icmp .eq 14, [70])) rfl) (decide_eq_true hc6)) ?_
          exact dt228_70 hd hk36 ih hl  h
        · rw [if_neg hc6] at h
          refine Q.map (A.bF (gI_of zm228 (e := (126, 3, .if_icmp .eq 14, [70])) rfl) (fun q => hc6 (of_decide_eq_true q))) ?_
          refine Q.run zm228 1 (i' := 65) (ls' := [some (.ref 121), some (.int x1), some (.int x2), some (.int x3), some (.int x4), some (.int x5), some (.int x6), some (.int x7), some (.int x8), g9, g10, g11, g12]) (st' := [.ref 121]) rfl ?_
          refine Q.map (A.gf (gI_of zm228 (e := (130, 3, .getfield 29, [9, 9])) rfl) (hl.lt (a := 121) (by decide)) (hl.T (a := 121) (p := (9, 45)) 43 rfl rfl) (by decide) (hl.R 29 rfl)) ?_
          refine Q.run zm228 1 (i' := 67) (ls' := [some (.ref 121), some (.int x1), some (.int x2), some (.int x3), some (.int x4), some (.int x5), some (.int x6), some (.int x7), some (.int x8), g9, g10, g11, g12]) (st' := [.int x8, .ref 128]) rfl ?_
          obtain ⟨hc7, h⟩ := ite_so h
          refine Q.map (A.ia (gI_of zm228 (e := (135, 1, .iaload, [])) rfl) (hl.lt (a := 128) (by decide)) (hl.T (a := 128) (p := (100, 1152)) 50 rfl rfl) hc7) ?_
          refine Q.run zm228 1 (i' := 69) (ls' := [some (.ref 121), some (.int x1), some (.int x2), some (.int x3), some (.int x4), some (.int x5), some (.int x6), some (.int x7), some (.int x8), g9, g10, g11, g12]) (st' := [.int 5, .int (sI s 128 (jN x8))]) rfl ?_
          by_cases hc8 : (sI s 128 (jN x8)) = 5
          · rw [if_pos hc8] at h
            refine Q.map (A.bF (gI_of zm228 (e := (137, 3, .if_icmp .ne 38, [88])) rfl) (fun q => of_decide_eq_true q hc8)) ?_
            exact dt228_70 hd hk36 ih hl  h
          · rw [if_neg hc8] at h
            refine Q.map (A.bT (gI_of zm228 (e := (137, 3, .if_icmp .ne 38, [88])) rfl) (decide_eq_true hc8)) ?_
            exact dt228_88 hd hk36 ih hl  h
def dm228_36 : Nat → Int32 → Int32 → Int32 → Int32 → Int32 → Int32 → Int32 → aS → Option (Int32 × aS)
  | 0, _, _, _, _, _, _, _, _ => none
  | n + 1, x1, x2, x3, x4, x5, x6, x7, s =>
    if 8 ≤ x7 then
      some (x6, s)
    else
      dm228_43 (dm228_36 n) 5000 x1 x2 x3 x4 x5 x6 x7 (128 * x7) s
set_option maxRecDepth 100000 in
theorem dt228_36 {sio : Bool} {tt : Nat} {cc : Nat → Nat → Int32} {d : Nat} (hd : 1 ≤ d) : ∀ (n : Nat) {x1 : Int32} {x2 : Int32} {x3 : Int32} {x4 : Int32} {x5 : Int32} {x6 : Int32} {x7 : Int32} {g8 : Option Value} {g9 : Option Value} {g10 : Option Value} {g11 : Option Value} {g12 : Option Value} {s : aS} (_ : Ly tt cc s) {o : Int32 × aS} (_ : dm228_36  n x1 x2 x3 x4 x5 x6 x7 s = some o), Q 2 sio tt cc d 228 36 [some (.ref 121), some (.int x1), some (.int x2), some (.int x3), some (.int x4), some (.int x5), some (.int x6), some (.int x7), g8, g9, g10, g11, g12] [] s (.inl (some (.int o.1)), o.2) := by
  obtain ⟨d, rfl⟩ : ∃ e, d = e + 1 := ⟨d - 1, by omega⟩
  intro n
  induction n with
  | zero => intro x1 x2 x3 x4 x5 x6 x7 g8 g9 g10 g11 g12 s hl o h; rw [dm228_36] at h; cases h
  | succ n ih =>
    intro x1 x2 x3 x4 x5 x6 x7 g8 g9 g10 g11 g12 s hl o h
    rw [dm228_36] at h
    refine Q.run zm228 2 (i' := 38) (ls' := [some (.ref 121), some (.int x1), some (.int x2), some (.int x3), some (.int x4), some (.int x5), some (.int x6), some (.int x7), g8, g9, g10, g11, g12]) (st' := [.int 8, .int x7]) rfl ?_
    by_cases hc1 : 8 ≤ x7
    · rw [if_pos hc1] at h
      refine Q.map (A.bT (gI_of zm228 (e := (78, 3, .if_icmp .ge 258, [167])) rfl) (decide_eq_true hc1)) ?_
      refine Q.run zm228 1 (i' := 168) (ls' := [some (.ref 121), some (.int x1), some (.int x2), some (.int x3), some (.int x4), some (.int x5), some (.int x6), some (.int x7), g8, g9, g10, g11, g12]) (st' := [.int x6]) rfl ?_
      cases h
      exact Q.ret (A.ri zm228 (show zM228.2.2.2.2.2[168]? = some (338, 1, .ireturn, []) from rfl) rfl rfl) hl
    · rw [if_neg hc1] at h
      refine Q.map (A.bF (gI_of zm228 (e := (78, 3, .if_icmp .ge 258, [167])) rfl) (fun q => hc1 (of_decide_eq_true q))) ?_
      refine Q.run zm228 4 (i' := 43) (ls' := [some (.ref 121), some (.int x1), some (.int x2), some (.int x3), some (.int x4), some (.int x5), some (.int x6), some (.int x7), some (.int (128 * x7)), g9, g10, g11, g12]) (st' := []) rfl ?_
      exact dt228_43 hd ih _ hl  h
def dm228_26 (x1 : Int32) (x2 : Int32) (x3 : Int32) (x4 : Int32) (x5 : Int32) (y1 : Int32) (s : aS) : Option (Int32 × aS) :=
  nx (wI s 121 0 y1) fun s1 =>
  if (sI s1 121 0) ≤ 0 then
    dm228_36 5000 x1 x2 x3 x4 x5 0 0 s1
  else
    some (0, s1)
set_option maxRecDepth 100000 in
theorem dt228_26 {sio : Bool} {tt : Nat} {cc : Nat → Nat → Int32} {d : Nat} (hd : 1 ≤ d) {x1 : Int32} {x2 : Int32} {x3 : Int32} {x4 : Int32} {x5 : Int32} {y1 : Int32} {s : aS} (hl : Ly tt cc s) {o : Int32 × aS} (h : dm228_26  x1 x2 x3 x4 x5 y1 s = some o) : Q 2 sio tt cc d 228 26 [some (.ref 121), some (.int x1), some (.int x2), some (.int x3), some (.int x4), some (.int x5), none, none, none, none, none, none, none] [.int y1, .ref 121] s (.inl (some (.int o.1)), o.2) := by
  unfold dm228_26 at h
  obtain ⟨d, rfl⟩ : ∃ e, d = e + 1 := ⟨d - 1, by omega⟩
  obtain ⟨s1, hs2, h⟩ := nx_so h
  refine Q.pf hs2 rfl (gI_of zm228 (e := (56, 3, .putfield 89, [9, 0, 0])) rfl) (hl.lt (a := 121) (by decide)) (by decide) (hl.T (a := 121) (p := (9, 45)) 43 rfl rfl) (by decide) rfl rfl ?_
  have hl3 : Ly tt cc s1 := by rw [hs2]; exact hl.wId (by decide)
  refine Q.run zm228 1 (i' := 28) (ls' := [some (.ref 121), some (.int x1), some (.int x2), some (.int x3), some (.int x4), some (.int x5), none, none, none, none, none, none, none]) (st' := [.ref 121]) rfl ?_
  refine Q.map (A.gf (gI_of zm228 (e := (60, 3, .getfield 89, [9, 0])) rfl) (hl3.lt (a := 121) (by decide)) (hl3.T (a := 121) (p := (9, 45)) 43 rfl rfl) (by decide) rfl) ?_
  by_cases hc4 : (sI s1 121 0) ≤ 0
  · rw [if_pos hc4] at h
    refine Q.map (A.zT (gI_of zm228 (e := (63, 3, .ifCond .le 5, [32])) rfl) (decide_eq_true hc4)) ?_
    refine Q.run zm228 4 (i' := 36) (ls' := [some (.ref 121), some (.int x1), some (.int x2), some (.int x3), some (.int x4), some (.int x5), some (.int 0), some (.int 0), none, none, none, none, none]) (st' := []) rfl ?_
    exact dt228_36 hd _ hl3  h
  · rw [if_neg hc4] at h
    refine Q.map (A.zF (gI_of zm228 (e := (63, 3, .ifCond .le 5, [32])) rfl) (fun q => hc4 (of_decide_eq_true q))) ?_
    refine Q.run zm228 1 (i' := 31) (ls' := [some (.ref 121), some (.int x1), some (.int x2), some (.int x3), some (.int x4), some (.int x5), none, none, none, none, none, none, none]) (st' := [.int 0]) rfl ?_
    cases h
    exact Q.ret (A.ri zm228 (show zM228.2.2.2.2.2[31]? = some (67, 1, .ireturn, []) from rfl) rfl rfl) hl3
def dm228_23 (x1 : Int32) (x2 : Int32) (x3 : Int32) (x4 : Int32) (x5 : Int32) (s : aS) : Option (Int32 × aS) :=
  dm228_26 x1 x2 x3 x4 x5 2 s
set_option maxRecDepth 100000 in
theorem dt228_23 {sio : Bool} {tt : Nat} {cc : Nat → Nat → Int32} {d : Nat} (hd : 1 ≤ d) {x1 : Int32} {x2 : Int32} {x3 : Int32} {x4 : Int32} {x5 : Int32} {s : aS} (hl : Ly tt cc s) {o : Int32 × aS} (h : dm228_23  x1 x2 x3 x4 x5 s = some o) : Q 2 sio tt cc d 228 23 [some (.ref 121), some (.int x1), some (.int x2), some (.int x3), some (.int x4), some (.int x5), none, none, none, none, none, none, none] [.ref 121] s (.inl (some (.int o.1)), o.2) := by
  unfold dm228_23 at h
  obtain ⟨d, rfl⟩ : ∃ e, d = e + 1 := ⟨d - 1, by omega⟩
  refine Q.run zm228 2 (i' := 26) (ls' := [some (.ref 121), some (.int x1), some (.int x2), some (.int x3), some (.int x4), some (.int x5), none, none, none, none, none, none, none]) (st' := [.int 2, .ref 121]) rfl ?_
  exact dt228_26 hd hl  h
def dm228_5 (x1 : Int32) (x2 : Int32) (x3 : Int32) (x4 : Int32) (y0 : Int32) (s : aS) : Option (Int32 × aS) :=
  bu (dm181 x1 s) fun r3 =>
  if r3 = 0 then
    bu (dm227 x3 y0) fun r7 =>
    if r7 = 0 then
      if x4 < (-1048576) then
        dm228_23 x1 x2 x3 x4 y0 s
      else
        if x4 ≤ 1048576 then
          dm228_26 x1 x2 x3 x4 y0 0 s
        else
          dm228_23 x1 x2 x3 x4 y0 s
    else
      dm228_23 x1 x2 x3 x4 y0 s
  else
    dm228_26 x1 x2 x3 x4 y0 1 s
set_option maxRecDepth 100000 in
theorem dt228_5 {sio : Bool} {tt : Nat} {cc : Nat → Nat → Int32} {d : Nat} (hd : 1 ≤ d) {x1 : Int32} {x2 : Int32} {x3 : Int32} {x4 : Int32} {y0 : Int32} {s : aS} (hl : Ly tt cc s) {o : Int32 × aS} (h : dm228_5  x1 x2 x3 x4 y0 s = some o) : Q 2 sio tt cc d 228 5 [some (.ref 121), some (.int x1), some (.int x2), some (.int x3), some (.int x4), none, none, none, none, none, none, none, none] [.int y0] s (.inl (some (.int o.1)), o.2) := by
  unfold dm228_5 at h
  obtain ⟨d, rfl⟩ : ∃ e, d = e + 1 := ⟨d - 1, by omega⟩
  refine Q.run zm228 4 (i' := 9) (ls' := [some (.ref 121), some (.int x1), some (.int x2), some (.int x3), some (.int x4), some (.int y0), none, none, none, none, none, none, none]) (st' := [.int x1, .ref 121, .ref 121]) rfl ?_
  obtain ⟨r3, hc2, h⟩ := bu_so h
  have hq1 : Q 2 sio tt cc d 181 0 [some (.ref 121), some (.int x1)] [] s (.inl (some (.int r3)), s) := dt181 (by omega) hl  hc2
  refine Q.callI (gC_vi zm228 (show zM228.2.2.2.2.2[9]? = some (17, 3, .invokevirtual 128, [0, 181, 1, 9]) from rfl) zm181 (hl.lt (a := 121) (by decide)) (hl.T (a := 121) (p := (9, 45)) 43 rfl rfl) rfl (show aCr 1 121 [.int x1, .ref 121, .ref 121] 2 = some ([some (.ref 121), some (.int x1)], [.ref 121]) from rfl)) hq1 ?_
  by_cases hc4 : r3 = 0
  · rw [if_pos hc4] at h
    refine Q.map (A.zT (gI_of zm228 (e := (20, 3, .ifCond .eq 7, [13])) rfl) (decide_eq_true hc4)) ?_
    refine Q.run zm228 2 (i' := 15) (ls' := [some (.ref 121), some (.int x1), some (.int x2), some (.int x3), some (.int x4), some (.int y0), none, none, none, none, none, none, none]) (st' := [.int y0, .int x3, .ref 121]) rfl ?_
    obtain ⟨r7, hc6, h⟩ := bu_so h
    have hq5 : Q 2 sio tt cc d 227 0 [some (.int x3), some (.int y0)] [] s (.inl (some (.int r7)), s) := dt227 (by omega) hl  hc6
    refine Q.callI (gC_st zm228 (show zM228.2.2.2.2.2[15]? = some (30, 3, .invokestatic 317, [0, 227, 2]) from rfl) zm227 (show aC 2 [.int y0, .int x3, .ref 121] 2 = some ([some (.int x3), some (.int y0)], [.ref 121]) from rfl)) hq5 ?_
    by_cases hc8 : r7 = 0
    · rw [if_pos hc8] at h
      refine Q.map (A.zF (gI_of zm228 (e := (33, 3, .ifCond .ne 18, [23])) rfl) (fun q => of_decide_eq_true q hc8)) ?_
      refine Q.run zm228 2 (i' := 19) (ls' := [some (.ref 121), some (.int x1), some (.int x2), some (.int x3), some (.int x4), some (.int y0), none, none, none, none, none, none, none]) (st' := [.int (-1048576), .int x4, .ref 121]) rfl ?_
      by_cases hc9 : x4 < (-1048576)
      · rw [if_pos hc9] at h
        refine Q.map (A.bT (gI_of zm228 (e := (41, 3, .if_icmp .lt 10, [23])) rfl) (decide_eq_true hc9)) ?_
        exact dt228_23 hd hl  h
      · rw [if_neg hc9] at h
        refine Q.map (A.bF (gI_of zm228 (e := (41, 3, .if_icmp .lt 10, [23])) rfl) (fun q => hc9 (of_decide_eq_true q))) ?_
        refine Q.run zm228 2 (i' := 22) (ls' := [some (.ref 121), some (.int x1), some (.int x2), some (.int x3), some (.int x4), some (.int y0), none, none, none, none, none, none, none]) (st' := [.int 1048576, .int x4, .ref 121]) rfl ?_
        by_cases hc10 : x4 ≤ 1048576
        · rw [if_pos hc10] at h
          refine Q.map (A.bT (gI_of zm228 (e := (48, 3, .if_icmp .le 7, [25])) rfl) (decide_eq_true hc10)) ?_
          refine Q.run zm228 1 (i' := 26) (ls' := [some (.ref 121), some (.int x1), some (.int x2), some (.int x3), some (.int x4), some (.int y0), none, none, none, none, none, none, none]) (st' := [.int 0, .ref 121]) rfl ?_
          exact dt228_26 hd hl  h
        · rw [if_neg hc10] at h
          refine Q.map (A.bF (gI_of zm228 (e := (48, 3, .if_icmp .le 7, [25])) rfl) (fun q => hc10 (of_decide_eq_true q))) ?_
          exact dt228_23 hd hl  h
    · rw [if_neg hc8] at h
      refine Q.map (A.zT (gI_of zm228 (e := (33, 3, .ifCond .ne 18, [23])) rfl) (decide_eq_true hc8)) ?_
      exact dt228_23 hd hl  h
  · rw [if_neg hc4] at h
    refine Q.map (A.zF (gI_of zm228 (e := (20, 3, .ifCond .eq 7, [13])) rfl) (fun q => hc4 (of_decide_eq_true q))) ?_
    refine Q.run zm228 2 (i' := 26) (ls' := [some (.ref 121), some (.int x1), some (.int x2), some (.int x3), some (.int x4), some (.int y0), none, none, none, none, none, none, none]) (st' := [.int 1, .ref 121]) rfl ?_
    exact dt228_26 hd hl  h
def dm228 (x1 : Int32) (x2 : Int32) (x3 : Int32) (x4 : Int32) (s : aS) : Option (Int32 × aS) :=
  if x2 = 0 then
    dm228_5 x1 x2 x3 x4 16384 s
  else
    dm228_5 x1 x2 x3 x4 1048576 s
set_option maxRecDepth 100000 in
theorem dt228 {sio : Bool} {tt : Nat} {cc : Nat → Nat → Int32} {d : Nat} (hd : 1 ≤ d) {x1 : Int32} {x2 : Int32} {x3 : Int32} {x4 : Int32} {s : aS} (hl : Ly tt cc s) {o : Int32 × aS} (h : dm228  x1 x2 x3 x4 s = some o) : Q 2 sio tt cc d 228 0 [some (.ref 121), some (.int x1), some (.int x2), some (.int x3), some (.int x4), none, none, none, none, none, none, none, none] [] s (.inl (some (.int o.1)), o.2) := by
  unfold dm228 at h
  obtain ⟨d, rfl⟩ : ∃ e, d = e + 1 := ⟨d - 1, by omega⟩
  refine Q.run zm228 1 (i' := 1) (ls' := [some (.ref 121), some (.int x1), some (.int x2), some (.int x3), some (.int x4), none, none, none, none, none, none, none, none]) (st' := [.int x2]) rfl ?_
  by_cases hc1 : x2 = 0
  · rw [if_pos hc1] at h
    refine Q.map (A.zT (gI_of zm228 (e := (1, 3, .ifCond .eq 8, [4])) rfl) (decide_eq_true hc1)) ?_
    refine Q.run zm228 1 (i' := 5) (ls' := [some (.ref 121), some (.int x1), some (.int x2), some (.int x3), some (.int x4), none, none, none, none, none, none, none, none]) (st' := [.int 16384]) rfl ?_
    exact dt228_5 hd hl  h
  · rw [if_neg hc1] at h
    refine Q.map (A.zF (gI_of zm228 (e := (1, 3, .ifCond .eq 8, [4])) rfl) (fun q => hc1 (of_decide_eq_true q))) ?_
    refine Q.run zm228 2 (i' := 5) (ls' := [some (.ref 121), some (.int x1), some (.int x2), some (.int x3), some (.int x4), none, none, none, none, none, none, none, none]) (st' := [.int 1048576]) rfl ?_
    exact dt228_5 hd hl  h
/-! 137 FormulaTrees.remove(I)V -/
set_option maxRecDepth 100000 in
theorem zm137 : zP[137]? = some zM137 := rfl
def dm137 (x1 : Int32) (s : aS) : Option (xZ × aS) :=
  bu (dm54 x1 s) fun r3 =>
  vN r3 (
    some (.inr 2, nw s 82 0)
  ) fun b5 =>
    if aK s b5 3 then
      if aB x1 8 then
        nx (wI s 101 (jN x1) (-1)) fun s8 =>
        some (.inl none, s8)
      else none
    else none
set_option maxRecDepth 100000 in
theorem dt137 {sio : Bool} {tt : Nat} {cc : Nat → Nat → Int32} {d : Nat} (hd : 9 ≤ d) {x1 : Int32} {s : aS} (hl : Ly tt cc s) {o : xZ × aS} (h : dm137  x1 s = some o) : Q 1 sio tt cc d 137 0 [some (.ref 78), some (.int x1)] [] s o := by
  unfold dm137 at h
  obtain ⟨d, rfl⟩ : ∃ e, d = e + 1 := ⟨d - 1, by omega⟩
  refine Q.run zm137 2 (i' := 2) (ls' := [some (.ref 78), some (.int x1)]) (st' := [.int x1, .ref 78]) rfl ?_
  obtain ⟨r3, hc2, h⟩ := bu_so h
  have hq1 : Q 1 sio tt cc d 54 0 [some (.ref 78), some (.int x1)] [] s (.inl (some r3), s) := dt54 (by omega) hl  hc2
  rcases vN_so h with ⟨hv4, h9⟩ | ⟨b5, hv4, h9⟩
  · clear h
    subst hv4
    have h := h9
    refine Q.callR (gC_vi zm137 (show zM137.2.2.2.2.2[2]? = some (2, 3, .invokevirtual 114, [0, 54, 1, 0]) from rfl) zm54 (hl.lt (a := 78) (by decide)) (hl.T (a := 78) (p := (0, 7)) 0 rfl rfl) rfl (show aCr 1 78 [.int x1, .ref 78] 2 = some ([some (.ref 78), some (.int x1)], []) from rfl)) hq1 ?_
    refine Q.run zm137 1 (i' := 4) (ls' := [some (.ref 78), some (.int x1)]) (st' := []) rfl ?_
    cases h
    exact Q.t zm137 (show zM137.2.2.2.2.2[4]? = some (8, 3, .new 100, [202]) from rfl) rfl rfl hl.gL (by omega) hl
  · clear h
    subst hv4
    have h := h9
    obtain ⟨hr6, h⟩ := ite_so h
    refine Q.callR (gC_vi zm137 (show zM137.2.2.2.2.2[2]? = some (2, 3, .invokevirtual 114, [0, 54, 1, 0]) from rfl) zm54 (hl.lt (a := 78) (by decide)) (hl.T (a := 78) (p := (0, 7)) 0 rfl rfl) rfl (show aCr 1 78 [.int x1, .ref 78] 2 = some ([some (.ref 78), some (.int x1)], []) from rfl)) hq1 ?_
    refine Q.run zm137 2 (i' := 10) (ls' := [some (.ref 78), some (.int x1)]) (st' := [.ref 78]) rfl ?_
    refine Q.map (A.gf (gI_of zm137 (e := (19, 3, .getfield 31, [0, 3])) rfl) (hl.lt (a := 78) (by decide)) (hl.T (a := 78) (p := (0, 7)) 0 rfl rfl) (by decide) (hl.R 3 rfl)) ?_
    refine Q.run zm137 2 (i' := 13) (ls' := [some (.ref 78), some (.int x1)]) (st' := [.int (-1), .int x1, .ref 101]) rfl ?_
    obtain ⟨hc7, h⟩ := ite_so h
    obtain ⟨s8, hs9, h⟩ := nx_so h
    refine Q.is hs9 rfl (gI_of zm137 (e := (24, 1, .iastore, [])) rfl) (hl.lt (a := 101) (by decide)) (by decide) (hl.T (a := 101) (p := (100, 8)) 23 rfl rfl) hc7 ?_
    have hl10 : Ly tt cc s8 := by rw [hs9]; exact hl.wId (by decide)
    have hr11 : aK s8 b5 3 := by rw [hs9]; exact hr6
    cases h
    exact Q.ret (A.rv zm137 (show zM137.2.2.2.2.2[14]? = some (25, 1, .return_, []) from rfl) rfl) hl10
/-! 8 FormulaTreesLaw.remove(LFormulaTrees;I)I -/
set_option maxRecDepth 100000 in
theorem zm8 : zP[8]? = some zM8 := rfl
def dm8 (x1 : Int32) (s : aS) : Option (Int32 × aS) :=
  bv (dm137 x1 s) fun z4 s3 =>
  zN z4 (fun v5 =>
    vV v5 <|
    some (0, s3)
  ) fun e6 =>
    if e6 = 2 then
      some (1, s3)
    else
      none
set_option maxRecDepth 100000 in
theorem dt8 {sio : Bool} {tt : Nat} {cc : Nat → Nat → Int32} {d : Nat} (hd : 10 ≤ d) {x1 : Int32} {s : aS} (hl : Ly tt cc s) {o : Int32 × aS} (h : dm8  x1 s = some o) : Q 1 sio tt cc d 8 0 [some (.ref 78), some (.int x1), none] [] s (.inl (some (.int o.1)), o.2) := by
  unfold dm8 at h
  obtain ⟨d, rfl⟩ : ∃ e, d = e + 1 := ⟨d - 1, by omega⟩
  refine Q.run zm8 2 (i' := 2) (ls' := [some (.ref 78), some (.int x1), none]) (st' := [.int x1, .ref 78]) rfl ?_
  obtain ⟨z4, s3, hc2, h⟩ := bv_so h
  have hq1 : Q 1 sio tt cc d 137 0 [some (.ref 78), some (.int x1)] [] s (z4, s3) := dt137 (by omega) hl  hc2
  rcases zN_so h with ⟨v5, hz8, h8⟩ | ⟨e6, hz8, h8⟩
  · clear h
    subst hz8
    have h := h8
    obtain ⟨hv7, h9⟩ := vV_so h
    clear h
    subst hv7
    have h := h9
    refine Q.callV (gC_vi zm8 (show zM8.2.2.2.2.2[2]? = some (2, 3, .invokevirtual 42, [0, 137, 1, 0]) from rfl) zm137 (hl.lt (a := 78) (by decide)) (hl.T (a := 78) (p := (0, 7)) 0 rfl rfl) rfl (show aCr 1 78 [.int x1, .ref 78] 2 = some ([some (.ref 78), some (.int x1)], []) from rfl)) hq1 ?_
    refine Q.run zm8 2 (i' := 8) (ls' := [some (.ref 78), some (.int x1), none]) (st' := [.int 0]) rfl ?_
    cases h
    exact Q.ret (A.ri zm8 (show zM8.2.2.2.2.2[8]? = some (12, 1, .ireturn, []) from rfl) rfl rfl) hq1.1
  · clear h
    subst hz8
    have h := h8
    by_cases hc9 : e6 = 2
    · rw [if_pos hc9] at h
      subst hc9
      refine Q.hc (gC_vi zm8 (show zM8.2.2.2.2.2[2]? = some (2, 3, .invokevirtual 42, [0, 137, 1, 0]) from rfl) zm137 (hl.lt (a := 78) (by decide)) (hl.T (a := 78) (p := (0, 7)) 0 rfl rfl) rfl (show aCr 1 78 [.int x1, .ref 78] 2 = some ([some (.ref 78), some (.int x1)], []) from rfl)) hq1 (t := 4) rfl ?_
      refine Q.run zm8 2 (i' := 6) (ls' := [some (.ref 78), some (.int x1), some (.ref (sL s3 - 1))]) (st' := [.int 1]) rfl ?_
      cases h
      exact Q.ret (A.ri zm8 (show zM8.2.2.2.2.2[6]? = some (10, 1, .ireturn, []) from rfl) rfl rfl) hq1.1
    · rw [if_neg hc9] at h
      cases h
/-! 231 FormulaTreesModel.remove(I)V -/
set_option maxRecDepth 100000 in
theorem zm231 : zP[231]? = some zM231 := rfl
def dm231_8 (x1 : Int32) (y1 : Int32) (s : aS) : Option (aS) :=
  nx (wI s 121 0 y1) fun s1 =>
  if (sI s1 121 0) = 0 then
    if aB x1 8 then
      nx (wI s1 125 (jN x1) ((0 : Int32) &&& 1)) fun s6 =>
      some s6
    else none
  else
    some s1
set_option maxRecDepth 100000 in
theorem dt231_8 {sio : Bool} {tt : Nat} {cc : Nat → Nat → Int32} {d : Nat} (hd : 1 ≤ d) {x1 : Int32} {y1 : Int32} {s : aS} (hl : Ly tt cc s) {o : aS} (h : dm231_8  x1 y1 s = some o) : Q 2 sio tt cc d 231 8 [some (.ref 121), some (.int x1)] [.int y1, .ref 121] s (.inl none, o) := by
  unfold dm231_8 at h
  obtain ⟨d, rfl⟩ : ∃ e, d = e + 1 := ⟨d - 1, by omega⟩
  obtain ⟨s1, hs2, h⟩ := nx_so h
  refine Q.pf hs2 rfl (gI_of zm231 (e := (14, 3, .putfield 89, [9, 0, 0])) rfl) (hl.lt (a := 121) (by decide)) (by decide) (hl.T (a := 121) (p := (9, 45)) 43 rfl rfl) (by decide) rfl rfl ?_
  have hl3 : Ly tt cc s1 := by rw [hs2]; exact hl.wId (by decide)
  refine Q.run zm231 1 (i' := 10) (ls' := [some (.ref 121), some (.int x1)]) (st' := [.ref 121]) rfl ?_
  refine Q.map (A.gf (gI_of zm231 (e := (18, 3, .getfield 89, [9, 0])) rfl) (hl3.lt (a := 121) (by decide)) (hl3.T (a := 121) (p := (9, 45)) 43 rfl rfl) (by decide) rfl) ?_
  by_cases hc4 : (sI s1 121 0) = 0
  · rw [if_pos hc4] at h
    refine Q.map (A.zF (gI_of zm231 (e := (21, 3, .ifCond .ne 10, [17])) rfl) (fun q => of_decide_eq_true q hc4)) ?_
    refine Q.run zm231 1 (i' := 13) (ls' := [some (.ref 121), some (.int x1)]) (st' := [.ref 121]) rfl ?_
    refine Q.map (A.gf (gI_of zm231 (e := (25, 3, .getfield 19, [9, 6])) rfl) (hl3.lt (a := 121) (by decide)) (hl3.T (a := 121) (p := (9, 45)) 43 rfl rfl) (by decide) (hl3.R 26 rfl)) ?_
    refine Q.run zm231 2 (i' := 16) (ls' := [some (.ref 121), some (.int x1)]) (st' := [.int 0, .int x1, .ref 125]) rfl ?_
    obtain ⟨hc5, h⟩ := ite_so h
    obtain ⟨s6, hs7, h⟩ := nx_so h
    refine Q.bs hs7 rfl (gI_of zm231 (e := (30, 1, .bastore, [])) rfl) (hl3.lt (a := 125) (by decide)) (by decide) (hl3.T (a := 125) (p := (103, 8)) 47 rfl rfl) hc5 ?_
    have hl8 : Ly tt cc s6 := by rw [hs7]; exact hl3.wId (by decide)
    cases h
    exact Q.ret (A.rv zm231 (show zM231.2.2.2.2.2[17]? = some (31, 1, .return_, []) from rfl) rfl) hl8
  · rw [if_neg hc4] at h
    refine Q.map (A.zT (gI_of zm231 (e := (21, 3, .ifCond .ne 10, [17])) rfl) (decide_eq_true hc4)) ?_
    cases h
    exact Q.ret (A.rv zm231 (show zM231.2.2.2.2.2[17]? = some (31, 1, .return_, []) from rfl) rfl) hl3
def dm231 (x1 : Int32) (s : aS) : Option (aS) :=
  bu (dm225 x1 s) fun r3 =>
  if r3 = 0 then
    dm231_8 x1 0 s
  else
    dm231_8 x1 1 s
set_option maxRecDepth 100000 in
theorem dt231 {sio : Bool} {tt : Nat} {cc : Nat → Nat → Int32} {d : Nat} (hd : 1 ≤ d) {x1 : Int32} {s : aS} (hl : Ly tt cc s) {o : aS} (h : dm231  x1 s = some o) : Q 2 sio tt cc d 231 0 [some (.ref 121), some (.int x1)] [] s (.inl none, o) := by
  unfold dm231 at h
  obtain ⟨d, rfl⟩ : ∃ e, d = e + 1 := ⟨d - 1, by omega⟩
  refine Q.run zm231 3 (i' := 3) (ls' := [some (.ref 121), some (.int x1)]) (st' := [.int x1, .ref 121, .ref 121]) rfl ?_
  obtain ⟨r3, hc2, h⟩ := bu_so h
  have hq1 : Q 2 sio tt cc d 225 0 [some (.ref 121), some (.int x1)] [] s (.inl (some (.int r3)), s) := dt225 (by omega) hl  hc2
  refine Q.callI (gC_vi zm231 (show zM231.2.2.2.2.2[3]? = some (3, 3, .invokevirtual 310, [0, 225, 1, 9]) from rfl) zm225 (hl.lt (a := 121) (by decide)) (hl.T (a := 121) (p := (9, 45)) 43 rfl rfl) rfl (show aCr 1 121 [.int x1, .ref 121, .ref 121] 2 = some ([some (.ref 121), some (.int x1)], [.ref 121]) from rfl)) hq1 ?_
  by_cases hc4 : r3 = 0
  · rw [if_pos hc4] at h
    refine Q.map (A.zT (gI_of zm231 (e := (6, 3, .ifCond .eq 7, [7])) rfl) (decide_eq_true hc4)) ?_
    refine Q.run zm231 1 (i' := 8) (ls' := [some (.ref 121), some (.int x1)]) (st' := [.int 0, .ref 121]) rfl ?_
    exact dt231_8 hd hl  h
  · rw [if_neg hc4] at h
    refine Q.map (A.zF (gI_of zm231 (e := (6, 3, .ifCond .eq 7, [7])) rfl) (fun q => hc4 (of_decide_eq_true q))) ?_
    refine Q.run zm231 2 (i' := 8) (ls' := [some (.ref 121), some (.int x1)]) (st' := [.int 1, .ref 121]) rfl ?_
    exact dt231_8 hd hl  h
/-! 141 FormulaTrees$Writer.write(I)V -/
set_option maxRecDepth 100000 in
theorem zm141 : zP[141]? = some zM141 := rfl
def dm141_8 (s : aS) : Option (aS) :=
  nx (wI s 117 8 ((sI s 117 8) + 1)) fun s1 =>
  some s1
set_option maxRecDepth 100000 in
theorem dt141_8 {sio : Bool} {tt : Nat} {cc : Nat → Nat → Int32} {d : Nat} (hd : 0 ≤ d) {x1 : Int32} {s : aS} (hl : Ly tt cc s) {o : aS} (h : dm141_8  s = some o) : Q 1 sio tt cc d 141 8 [some (.ref 117), some (.int x1)] [] s (.inl none, o) := by
  unfold dm141_8 at h
  refine Q.run zm141 2 (i' := 10) (ls' := [some (.ref 117), some (.int x1)]) (st' := [.ref 117, .ref 117]) rfl ?_
  refine Q.map (A.gf (gI_of zm141 (e := (18, 3, .getfield 37, [8, 8])) rfl) (hl.lt (a := 117) (by decide)) (hl.T (a := 117) (p := (8, 11)) 39 rfl rfl) (by decide) rfl) ?_
  refine Q.run zm141 2 (i' := 13) (ls' := [some (.ref 117), some (.int x1)]) (st' := [.int ((sI s 117 8) + 1), .ref 117]) rfl ?_
  obtain ⟨s1, hs2, h⟩ := nx_so h
  refine Q.pf hs2 rfl (gI_of zm141 (e := (23, 3, .putfield 37, [8, 8, 0])) rfl) (hl.lt (a := 117) (by decide)) (by decide) (hl.T (a := 117) (p := (8, 11)) 39 rfl rfl) (by decide) rfl rfl ?_
  have hl3 : Ly tt cc s1 := by rw [hs2]; exact hl.wId (by decide)
  cases h
  exact Q.ret (A.rv zm141 (show zM141.2.2.2.2.2[14]? = some (26, 1, .return_, []) from rfl) rfl) hl3
def dm141 (x1 : Int32) (s : aS) : Option (aS) :=
  if (sI s 117 8) = (sI s 117 9) then
    nx (wI s 117 10 x1) fun s2 =>
    dm141_8 s2
  else
    dm141_8 s
set_option maxRecDepth 100000 in
theorem dt141 {sio : Bool} {tt : Nat} {cc : Nat → Nat → Int32} {d : Nat} (hd : 0 ≤ d) {x1 : Int32} {s : aS} (hl : Ly tt cc s) {o : aS} (h : dm141  x1 s = some o) : Q 1 sio tt cc d 141 0 [some (.ref 117), some (.int x1)] [] s (.inl none, o) := by
  unfold dm141 at h
  refine Q.run zm141 1 (i' := 1) (ls' := [some (.ref 117), some (.int x1)]) (st' := [.ref 117]) rfl ?_
  refine Q.map (A.gf (gI_of zm141 (e := (1, 3, .getfield 37, [8, 8])) rfl) (hl.lt (a := 117) (by decide)) (hl.T (a := 117) (p := (8, 11)) 39 rfl rfl) (by decide) rfl) ?_
  refine Q.run zm141 1 (i' := 3) (ls' := [some (.ref 117), some (.int x1)]) (st' := [.ref 117, .int (sI s 117 8)]) rfl ?_
  refine Q.map (A.gf (gI_of zm141 (e := (5, 3, .getfield 40, [8, 9])) rfl) (hl.lt (a := 117) (by decide)) (hl.T (a := 117) (p := (8, 11)) 39 rfl rfl) (by decide) rfl) ?_
  by_cases hc1 : (sI s 117 8) = (sI s 117 9)
  · rw [if_pos hc1] at h
    refine Q.map (A.bF (gI_of zm141 (e := (8, 3, .if_icmp .ne 8, [8])) rfl) (fun q => of_decide_eq_true q hc1)) ?_
    refine Q.run zm141 2 (i' := 7) (ls' := [some (.ref 117), some (.int x1)]) (st' := [.int x1, .ref 117]) rfl ?_
    obtain ⟨s2, hs3, h⟩ := nx_so h
    refine Q.pf hs3 rfl (gI_of zm141 (e := (13, 3, .putfield 43, [8, 10, 0])) rfl) (hl.lt (a := 117) (by decide)) (by decide) (hl.T (a := 117) (p := (8, 11)) 39 rfl rfl) (by decide) rfl rfl ?_
    have hl4 : Ly tt cc s2 := by rw [hs3]; exact hl.wId (by decide)
    exact dt141_8 hd hl4  h
  · rw [if_neg hc1] at h
    refine Q.map (A.bT (gI_of zm141 (e := (8, 3, .if_icmp .ne 8, [8])) rfl) (decide_eq_true hc1)) ?_
    exact dt141_8 hd hl  h
/-! 140 FormulaTrees$Writer.begin(Z)V -/
set_option maxRecDepth 100000 in
theorem zm140 : zP[140]? = some zM140 := rfl
def dm140_24 (x1 : Int32) (s : aS) : Option (aS) :=
  if aB (sI s 117 4) 128 then
    nx (wI s 118 (jN (sI s 117 4)) (sI s 117 6)) fun s2 =>
    if aB (sI s2 117 4) 128 then
      nx (wI s2 119 (jN (sI s2 117 4)) 0) fun s6 =>
      if aB (sI s6 117 4) 128 then
        nx (wI s6 120 (jN (sI s6 117 4)) (x1 &&& 1)) fun s10 =>
        nx (wI s10 117 4 ((sI s10 117 4) + 1)) fun s13 =>
        nx (wI s13 117 6 ((sI s13 117 6) + 1)) fun s16 =>
        nx (wI s16 117 7 1) fun s19 =>
        some s19
      else none
    else none
  else none
set_option maxRecDepth 100000 in
theorem dt140_24 {sio : Bool} {tt : Nat} {cc : Nat → Nat → Int32} {d : Nat} (hd : 1 ≤ d) {x1 : Int32} {s : aS} (hl : Ly tt cc s) {o : aS} (h : dm140_24  x1 s = some o) : Q 1 sio tt cc d 140 24 [some (.ref 117), some (.int x1)] [] s (.inl none, o) := by
  unfold dm140_24 at h
  obtain ⟨d, rfl⟩ : ∃ e, d = e + 1 := ⟨d - 1, by omega⟩
  refine Q.run zm140 1 (i' := 25) (ls' := [some (.ref 117), some (.int x1)]) (st' := [.ref 117]) rfl ?_
  refine Q.map (A.gf (gI_of zm140 (e := (44, 3, .getfield 9, [8, 1])) rfl) (hl.lt (a := 117) (by decide)) (hl.T (a := 117) (p := (8, 11)) 39 rfl rfl) (by decide) (hl.R 20 rfl)) ?_
  refine Q.run zm140 1 (i' := 27) (ls' := [some (.ref 117), some (.int x1)]) (st' := [.ref 117, .ref 118]) rfl ?_
  refine Q.map (A.gf (gI_of zm140 (e := (48, 3, .getfield 30, [8, 4])) rfl) (hl.lt (a := 117) (by decide)) (hl.T (a := 117) (p := (8, 11)) 39 rfl rfl) (by decide) rfl) ?_
  refine Q.run zm140 1 (i' := 29) (ls' := [some (.ref 117), some (.int x1)]) (st' := [.ref 117, .int (sI s 117 4), .ref 118]) rfl ?_
  refine Q.map (A.gf (gI_of zm140 (e := (52, 3, .getfield 34, [8, 6])) rfl) (hl.lt (a := 117) (by decide)) (hl.T (a := 117) (p := (8, 11)) 39 rfl rfl) (by decide) rfl) ?_
  obtain ⟨hc1, h⟩ := ite_so h
  obtain ⟨s2, hs3, h⟩ := nx_so h
  refine Q.is hs3 rfl (gI_of zm140 (e := (55, 1, .iastore, [])) rfl) (hl.lt (a := 118) (by decide)) (by decide) (hl.T (a := 118) (p := (100, 128)) 40 rfl rfl) hc1 ?_
  have hl4 : Ly tt cc s2 := by rw [hs3]; exact hl.wId (by decide)
  refine Q.run zm140 1 (i' := 32) (ls' := [some (.ref 117), some (.int x1)]) (st' := [.ref 117]) rfl ?_
  refine Q.map (A.gf (gI_of zm140 (e := (57, 3, .getfield 15, [8, 2])) rfl) (hl4.lt (a := 117) (by decide)) (hl4.T (a := 117) (p := (8, 11)) 39 rfl rfl) (by decide) (hl4.R 21 rfl)) ?_
  refine Q.run zm140 1 (i' := 34) (ls' := [some (.ref 117), some (.int x1)]) (st' := [.ref 117, .ref 119]) rfl ?_
  refine Q.map (A.gf (gI_of zm140 (e := (61, 3, .getfield 30, [8, 4])) rfl) (hl4.lt (a := 117) (by decide)) (hl4.T (a := 117) (p := (8, 11)) 39 rfl rfl) (by decide) rfl) ?_
  refine Q.run zm140 1 (i' := 36) (ls' := [some (.ref 117), some (.int x1)]) (st' := [.int 0, .int (sI s2 117 4), .ref 119]) rfl ?_
  obtain ⟨hc5, h⟩ := ite_so h
  obtain ⟨s6, hs7, h⟩ := nx_so h
  refine Q.is hs7 rfl (gI_of zm140 (e := (65, 1, .iastore, [])) rfl) (hl4.lt (a := 119) (by decide)) (by decide) (hl4.T (a := 119) (p := (100, 128)) 41 rfl rfl) hc5 ?_
  have hl8 : Ly tt cc s6 := by rw [hs7]; exact hl4.wId (by decide)
  refine Q.run zm140 1 (i' := 38) (ls' := [some (.ref 117), some (.int x1)]) (st' := [.ref 117]) rfl ?_
  refine Q.map (A.gf (gI_of zm140 (e := (67, 3, .getfield 18, [8, 3])) rfl) (hl8.lt (a := 117) (by decide)) (hl8.T (a := 117) (p := (8, 11)) 39 rfl rfl) (by decide) (hl8.R 22 rfl)) ?_
  refine Q.run zm140 1 (i' := 40) (ls' := [some (.ref 117), some (.int x1)]) (st' := [.ref 117, .ref 120]) rfl ?_
  refine Q.map (A.gf (gI_of zm140 (e := (71, 3, .getfield 30, [8, 4])) rfl) (hl8.lt (a := 117) (by decide)) (hl8.T (a := 117) (p := (8, 11)) 39 rfl rfl) (by decide) rfl) ?_
  refine Q.run zm140 1 (i' := 42) (ls' := [some (.ref 117), some (.int x1)]) (st' := [.int x1, .int (sI s6 117 4), .ref 120]) rfl ?_
  obtain ⟨hc9, h⟩ := ite_so h
  obtain ⟨s10, hs11, h⟩ := nx_so h
  refine Q.bs hs11 rfl (gI_of zm140 (e := (75, 1, .bastore, [])) rfl) (hl8.lt (a := 120) (by decide)) (by decide) (hl8.T (a := 120) (p := (103, 128)) 42 rfl rfl) hc9 ?_
  have hl12 : Ly tt cc s10 := by rw [hs11]; exact hl8.wId (by decide)
  refine Q.run zm140 2 (i' := 45) (ls' := [some (.ref 117), some (.int x1)]) (st' := [.ref 117, .ref 117]) rfl ?_
  refine Q.map (A.gf (gI_of zm140 (e := (78, 3, .getfield 30, [8, 4])) rfl) (hl12.lt (a := 117) (by decide)) (hl12.T (a := 117) (p := (8, 11)) 39 rfl rfl) (by decide) rfl) ?_
  refine Q.run zm140 2 (i' := 48) (ls' := [some (.ref 117), some (.int x1)]) (st' := [.int ((sI s10 117 4) + 1), .ref 117]) rfl ?_
  obtain ⟨s13, hs14, h⟩ := nx_so h
  refine Q.pf hs14 rfl (gI_of zm140 (e := (83, 3, .putfield 30, [8, 4, 0])) rfl) (hl12.lt (a := 117) (by decide)) (by decide) (hl12.T (a := 117) (p := (8, 11)) 39 rfl rfl) (by decide) rfl rfl ?_
  have hl15 : Ly tt cc s13 := by rw [hs14]; exact hl12.wId (by decide)
  refine Q.run zm140 2 (i' := 51) (ls' := [some (.ref 117), some (.int x1)]) (st' := [.ref 117, .ref 117]) rfl ?_
  refine Q.map (A.gf (gI_of zm140 (e := (88, 3, .getfield 34, [8, 6])) rfl) (hl15.lt (a := 117) (by decide)) (hl15.T (a := 117) (p := (8, 11)) 39 rfl rfl) (by decide) rfl) ?_
  refine Q.run zm140 2 (i' := 54) (ls' := [some (.ref 117), some (.int x1)]) (st' := [.int ((sI s13 117 6) + 1), .ref 117]) rfl ?_
  obtain ⟨s16, hs17, h⟩ := nx_so h
  refine Q.pf hs17 rfl (gI_of zm140 (e := (93, 3, .putfield 34, [8, 6, 0])) rfl) (hl15.lt (a := 117) (by decide)) (by decide) (hl15.T (a := 117) (p := (8, 11)) 39 rfl rfl) (by decide) rfl rfl ?_
  have hl18 : Ly tt cc s16 := by rw [hs17]; exact hl15.wId (by decide)
  refine Q.run zm140 2 (i' := 57) (ls' := [some (.ref 117), some (.int x1)]) (st' := [.int 1, .ref 117]) rfl ?_
  obtain ⟨s19, hs20, h⟩ := nx_so h
  refine Q.pf hs20 rfl (gI_of zm140 (e := (98, 3, .putfield 50, [8, 7, 1])) rfl) (hl18.lt (a := 117) (by decide)) (by decide) (hl18.T (a := 117) (p := (8, 11)) 39 rfl rfl) (by decide) rfl rfl ?_
  have hl21 : Ly tt cc s19 := by rw [hs20]; exact hl18.wId (by decide)
  cases h
  exact Q.ret (A.rv zm140 (show zM140.2.2.2.2.2[58]? = some (101, 1, .return_, []) from rfl) rfl) hl21
def dm140_19 (x1 : Int32) (s : aS) : Option (aS) :=
  if x1 = 0 then
    dm140_24 x1 s
  else
    bu (dm141 40 s) fun s4 =>
    dm140_24 x1 s4
set_option maxRecDepth 100000 in
theorem dt140_19 {sio : Bool} {tt : Nat} {cc : Nat → Nat → Int32} {d : Nat} (hd : 1 ≤ d) {x1 : Int32} {s : aS} (hl : Ly tt cc s) {o : aS} (h : dm140_19  x1 s = some o) : Q 1 sio tt cc d 140 19 [some (.ref 117), some (.int x1)] [] s (.inl none, o) := by
  unfold dm140_19 at h
  obtain ⟨d, rfl⟩ : ∃ e, d = e + 1 := ⟨d - 1, by omega⟩
  refine Q.run zm140 1 (i' := 20) (ls' := [some (.ref 117), some (.int x1)]) (st' := [.int x1]) rfl ?_
  by_cases hc1 : x1 = 0
  · rw [if_pos hc1] at h
    refine Q.map (A.zT (gI_of zm140 (e := (34, 3, .ifCond .eq 9, [24])) rfl) (decide_eq_true hc1)) ?_
    exact dt140_24 hd hl  h
  · rw [if_neg hc1] at h
    refine Q.map (A.zF (gI_of zm140 (e := (34, 3, .ifCond .eq 9, [24])) rfl) (fun q => hc1 (of_decide_eq_true q))) ?_
    refine Q.run zm140 2 (i' := 23) (ls' := [some (.ref 117), some (.int x1)]) (st' := [.int 40, .ref 117]) rfl ?_
    obtain ⟨s4, hc3, h⟩ := bu_so h
    have hq2 : Q 1 sio tt cc d 141 0 [some (.ref 117), some (.int 40)] [] s (.inl none, s4) := dt141 (by omega) hl  hc3
    refine Q.callV (gC_vi zm140 (show zM140.2.2.2.2.2[23]? = some (40, 3, .invokevirtual 72, [0, 141, 1, 8]) from rfl) zm141 (hl.lt (a := 117) (by decide)) (hl.T (a := 117) (p := (8, 11)) 39 rfl rfl) rfl (show aCr 1 117 [.int 40, .ref 117] 2 = some ([some (.ref 117), some (.int 40)], []) from rfl)) hq2 ?_
    exact dt140_24 hd hq2.1  h
def dm140 (x1 : Int32) (s : aS) : Option (aS) :=
  if (sI s 117 4) < 128 then
    if (sI s 117 4) ≤ 0 then
      dm140_19 x1 s
    else
      if aB ((sI s 117 4) - 1) 128 then
        if aB ((sI s 117 4) - 1) 128 then
          nx (wI s 119 (jN ((sI s 117 4) - 1)) ((sI s 119 (jN ((sI s 117 4) - 1))) + 1)) fun s5 =>
          dm140_19 x1 s5
        else none
      else none
  else
    some s
set_option maxRecDepth 100000 in
theorem dt140 {sio : Bool} {tt : Nat} {cc : Nat → Nat → Int32} {d : Nat} (hd : 1 ≤ d) {x1 : Int32} {s : aS} (hl : Ly tt cc s) {o : aS} (h : dm140  x1 s = some o) : Q 1 sio tt cc d 140 0 [some (.ref 117), some (.int x1)] [] s (.inl none, o) := by
  unfold dm140 at h
  obtain ⟨d, rfl⟩ : ∃ e, d = e + 1 := ⟨d - 1, by omega⟩
  refine Q.run zm140 1 (i' := 1) (ls' := [some (.ref 117), some (.int x1)]) (st' := [.ref 117]) rfl ?_
  refine Q.map (A.gf (gI_of zm140 (e := (1, 3, .getfield 30, [8, 4])) rfl) (hl.lt (a := 117) (by decide)) (hl.T (a := 117) (p := (8, 11)) 39 rfl rfl) (by decide) rfl) ?_
  refine Q.run zm140 1 (i' := 3) (ls' := [some (.ref 117), some (.int x1)]) (st' := [.int 128, .int (sI s 117 4)]) rfl ?_
  by_cases hc1 : (sI s 117 4) < 128
  · rw [if_pos hc1] at h
    refine Q.map (A.bT (gI_of zm140 (e := (7, 3, .if_icmp .lt 4, [5])) rfl) (decide_eq_true hc1)) ?_
    refine Q.run zm140 1 (i' := 6) (ls' := [some (.ref 117), some (.int x1)]) (st' := [.ref 117]) rfl ?_
    refine Q.map (A.gf (gI_of zm140 (e := (12, 3, .getfield 30, [8, 4])) rfl) (hl.lt (a := 117) (by decide)) (hl.T (a := 117) (p := (8, 11)) 39 rfl rfl) (by decide) rfl) ?_
    by_cases hc2 : (sI s 117 4) ≤ 0
    · rw [if_pos hc2] at h
      refine Q.map (A.zT (gI_of zm140 (e := (15, 3, .ifCond .le 18, [19])) rfl) (decide_eq_true hc2)) ?_
      exact dt140_19 hd hl  h
    · rw [if_neg hc2] at h
      refine Q.map (A.zF (gI_of zm140 (e := (15, 3, .ifCond .le 18, [19])) rfl) (fun q => hc2 (of_decide_eq_true q))) ?_
      refine Q.run zm140 1 (i' := 9) (ls' := [some (.ref 117), some (.int x1)]) (st' := [.ref 117]) rfl ?_
      refine Q.map (A.gf (gI_of zm140 (e := (19, 3, .getfield 15, [8, 2])) rfl) (hl.lt (a := 117) (by decide)) (hl.T (a := 117) (p := (8, 11)) 39 rfl rfl) (by decide) (hl.R 21 rfl)) ?_
      refine Q.run zm140 1 (i' := 11) (ls' := [some (.ref 117), some (.int x1)]) (st' := [.ref 117, .ref 119]) rfl ?_
      refine Q.map (A.gf (gI_of zm140 (e := (23, 3, .getfield 30, [8, 4])) rfl) (hl.lt (a := 117) (by decide)) (hl.T (a := 117) (p := (8, 11)) 39 rfl rfl) (by decide) rfl) ?_
      refine Q.run zm140 3 (i' := 15) (ls' := [some (.ref 117), some (.int x1)]) (st' := [.int ((sI s 117 4) - 1), .ref 119, .int ((sI s 117 4) - 1), .ref 119]) rfl ?_
      obtain ⟨hc3, h⟩ := ite_so h
      refine Q.map (A.ia (gI_of zm140 (e := (29, 1, .iaload, [])) rfl) (hl.lt (a := 119) (by decide)) (hl.T (a := 119) (p := (100, 128)) 41 rfl rfl) hc3) ?_
      refine Q.run zm140 2 (i' := 18) (ls' := [some (.ref 117), some (.int x1)]) (st' := [.int ((sI s 119 (jN ((sI s 117 4) - 1))) + 1), .int ((sI s 117 4) - 1), .ref 119]) rfl ?_
      obtain ⟨hc4, h⟩ := ite_so h
      obtain ⟨s5, hs6, h⟩ := nx_so h
      refine Q.is hs6 rfl (gI_of zm140 (e := (32, 1, .iastore, [])) rfl) (hl.lt (a := 119) (by decide)) (by decide) (hl.T (a := 119) (p := (100, 128)) 41 rfl rfl) hc4 ?_
      have hl7 : Ly tt cc s5 := by rw [hs6]; exact hl.wId (by decide)
      exact dt140_19 hd hl7  h
  · rw [if_neg hc1] at h
    refine Q.map (A.bF (gI_of zm140 (e := (7, 3, .if_icmp .lt 4, [5])) rfl) (fun q => hc1 (of_decide_eq_true q))) ?_
    cases h
    exact Q.ret (A.rv zm140 (show zM140.2.2.2.2.2[4]? = some (10, 1, .return_, []) from rfl) rfl) hl
