/-! 28 FormulaTrees$Letters.length()I -/
set_option maxRecDepth 100000 in
theorem zm28 : zP[28]? = some zM28 := rfl
def dm28 (b0 : Nat) (s : aS) : Option (Int32) :=
  some (sI s b0 1)
set_option maxRecDepth 100000 in
theorem dt28 {sio : Bool} {tt : Nat} {cc : Nat → Nat → Int32} {d : Nat} (hd : 0 ≤ d) {b0 : Nat} {s : aS} (hl : Ly tt cc s) (hk_b0 : aK s b0 1) {o : Int32} (h : dm28  b0 s = some o) : Q 1 sio tt cc d 28 0 [some (.ref b0)] [] s (.inl (some (.int o)), s) := by
  unfold dm28 at h
  refine Q.run zm28 1 (i' := 1) (ls' := [some (.ref b0)]) (st' := [.ref b0]) rfl ?_
  refine Q.map (A.gf (gI_of zm28 (e := (1, 3, .getfield 15, [1, 1])) rfl) hk_b0.1 (hl.le hk_b0).1 (by decide) rfl) ?_
  cases h
  exact Q.ret (A.ri zm28 (show zM28.2.2.2.2.2[2]? = some (4, 1, .ireturn, []) from rfl) rfl rfl) hl
/-! 29 FormulaTrees$Letters.add(I)V -/
set_option maxRecDepth 100000 in
theorem zm29 : zP[29]? = some zM29 := rfl
def dm29 (b0 : Nat) (x1 : Int32) (s : aS) : Option (aS) :=
  if (Int32.ofNat (sT s (b0 + 1)).2) ≤ (sI s b0 1) then
    some s
  else
    if aB (sI s b0 1) (sT s (b0 + 1)).2 then
      nx (wI s (b0 + 1) (jN (sI s b0 1)) (nC ((x1.toUInt32 % 65536).toInt32))) fun s3 =>
      nx (wI s3 b0 1 ((sI s3 b0 1) + 1)) fun s7 =>
      some s7
    else none
set_option maxRecDepth 100000 in
theorem dt29 {sio : Bool} {tt : Nat} {cc : Nat → Nat → Int32} {d : Nat} (hd : 0 ≤ d) {b0 : Nat} {x1 : Int32} {s : aS} (hl : Ly tt cc s) (hk_b0 : aK s b0 1) {o : aS} (h : dm29  b0 x1 s = some o) : Q 1 sio tt cc d 29 0 [some (.ref b0), some (.int x1)] [] s (.inl none, o) := by
  unfold dm29 at h
  refine Q.run zm29 1 (i' := 1) (ls' := [some (.ref b0), some (.int x1)]) (st' := [.ref b0]) rfl ?_
  refine Q.map (A.gf (gI_of zm29 (e := (1, 3, .getfield 15, [1, 1])) rfl) hk_b0.1 (hl.le hk_b0).1 (by decide) rfl) ?_
  refine Q.run zm29 1 (i' := 3) (ls' := [some (.ref b0), some (.int x1)]) (st' := [.ref b0, .int (sI s b0 1)]) rfl ?_
  refine Q.map (A.gf (gI_of zm29 (e := (5, 3, .getfield 9, [1, 0])) rfl) hk_b0.1 (hl.le hk_b0).1 (by decide) (hl.le hk_b0).2.1) ?_
  refine Q.map (A.al (gI_of zm29 (e := (8, 1, .arraylength, [])) rfl) (hl.le hk_b0).2.2.1 (pr2 (hl.le hk_b0).2.2.2.1) (by decide)) ?_
  by_cases hc1 : (Int32.ofNat (sT s (b0 + 1)).2) ≤ (sI s b0 1)
  · rw [if_pos hc1] at h
    refine Q.map (A.bT (gI_of zm29 (e := (9, 3, .if_icmp .ge 24, [19])) rfl) (decide_eq_true hc1)) ?_
    cases h
    exact Q.ret (A.rv zm29 (show zM29.2.2.2.2.2[19]? = some (33, 1, .return_, []) from rfl) rfl) hl
  · rw [if_neg hc1] at h
    refine Q.map (A.bF (gI_of zm29 (e := (9, 3, .if_icmp .ge 24, [19])) rfl) (fun q => hc1 (of_decide_eq_true q))) ?_
    refine Q.run zm29 1 (i' := 7) (ls' := [some (.ref b0), some (.int x1)]) (st' := [.ref b0]) rfl ?_
    refine Q.map (A.gf (gI_of zm29 (e := (13, 3, .getfield 9, [1, 0])) rfl) hk_b0.1 (hl.le hk_b0).1 (by decide) (hl.le hk_b0).2.1) ?_
    refine Q.run zm29 1 (i' := 9) (ls' := [some (.ref b0), some (.int x1)]) (st' := [.ref b0, .ref (b0 + 1)]) rfl ?_
    refine Q.map (A.gf (gI_of zm29 (e := (17, 3, .getfield 15, [1, 1])) rfl) hk_b0.1 (hl.le hk_b0).1 (by decide) rfl) ?_
    refine Q.run zm29 2 (i' := 12) (ls' := [some (.ref b0), some (.int x1)]) (st' := [.int ((x1.toUInt32 % 65536).toInt32), .int (sI s b0 1), .ref (b0 + 1)]) rfl ?_
    obtain ⟨hc2, h⟩ := ite_so h
    obtain ⟨s3, hs4, h⟩ := nx_so h
    refine Q.cs hs4 (hl.g1b hk_b0) (gI_of zm29 (e := (22, 1, .castore, [])) rfl) (hl.le hk_b0).2.2.1 (Nat.le_succ_of_le (hl.le hk_b0).2.2.2.2) (pr2 (hl.le hk_b0).2.2.2.1) hc2 ?_
    have hl5 : Ly tt cc s3 := by rw [hs4]; exact hl.wId (Nat.le_succ_of_le (hl.le hk_b0).2.2.2.2)
    have hr6 : aK s3 b0 1 := by rw [hs4]; exact hk_b0
    refine Q.run zm29 2 (i' := 15) (ls' := [some (.ref b0), some (.int x1)]) (st' := [.ref b0, .ref b0]) rfl ?_
    refine Q.map (A.gf (gI_of zm29 (e := (25, 3, .getfield 15, [1, 1])) rfl) hr6.1 (hl5.le hr6).1 (by decide) rfl) ?_
    refine Q.run zm29 2 (i' := 18) (ls' := [some (.ref b0), some (.int x1)]) (st' := [.int ((sI s3 b0 1) + 1), .ref b0]) rfl ?_
    obtain ⟨s7, hs8, h⟩ := nx_so h
    refine Q.pf hs8 (hl5.g1 hr6) (gI_of zm29 (e := (30, 3, .putfield 15, [1, 1, 0])) rfl) hr6.1 (hl5.le hr6).2.2.2.2 (hl5.le hr6).1 (by decide) rfl rfl ?_
    have hl9 : Ly tt cc s7 := by rw [hs8]; exact hl5.wId (hl5.le hr6).2.2.2.2
    have hr10 : aK s7 b0 1 := by rw [hs8]; exact hr6
    cases h
    exact Q.ret (A.rv zm29 (show zM29.2.2.2.2.2[19]? = some (33, 1, .return_, []) from rfl) rfl) hl9
/-! 27 FormulaTrees.type(I)I -/
set_option maxRecDepth 100000 in
theorem zm27 : zP[27]? = some zM27 := rfl
def dm27_63 (k49 : Int32 → Int32 → aS → Option (xZ × aS)) (x1 : Int32) (x3 : Int32) (s : aS) : Option (xZ × aS) :=
  k49 x1 (x3 + (-8)) s
set_option maxRecDepth 100000 in
theorem dt27_63 {sio : Bool} {tt : Nat} {cc : Nat → Nat → Int32} {d : Nat} (hd : 9 ≤ d) {k49 : Int32 → Int32 → aS → Option (xZ × aS)} (hk49 : ∀ {x1 : Int32} {x3 : Int32} {x2 : Int32} {g4 : Option Value} {s : aS}, Ly tt cc s → ∀ {o : xZ × aS}, k49 x1 x3 s = some o → Q 1 sio tt cc d 27 49 [some (.ref 78), some (.int x1), some (.int x2), some (.int x3), g4] [] s o) {x1 : Int32} {x3 : Int32} {x2 : Int32} {x4 : Int32} {s : aS} (hl : Ly tt cc s) {o : xZ × aS} (h : dm27_63 k49 x1 x3 s = some o) : Q 1 sio tt cc d 27 63 [some (.ref 78), some (.int x1), some (.int x2), some (.int x3), some (.int x4)] [] s o := by
  unfold dm27_63 at h
  obtain ⟨d, rfl⟩ : ∃ e, d = e + 1 := ⟨d - 1, by omega⟩
  refine Q.run zm27 2 (i' := 49) (ls' := [some (.ref 78), some (.int x1), some (.int x2), some (.int (x3 + (-8))), some (.int x4)]) (st' := []) rfl ?_
  exact hk49 hl  h
def dm27_31 (k4 : Int32 → Int32 → Int32 → aS → Option (xZ × aS)) (x1 : Int32) (x3 : Int32) (y0 : Int32) (y1 : Int32) (s : aS) : Option (xZ × aS) :=
  k4 x1 (y0 + y1) (x3 + (-8)) s
set_option maxRecDepth 100000 in
theorem dt27_31 {sio : Bool} {tt : Nat} {cc : Nat → Nat → Int32} {d : Nat} (hd : 9 ≤ d) {k4 : Int32 → Int32 → Int32 → aS → Option (xZ × aS)} (hk4 : ∀ {x1 : Int32} {x2 : Int32} {x3 : Int32} {g4 : Option Value} {s : aS}, Ly tt cc s → ∀ {o : xZ × aS}, k4 x1 x2 x3 s = some o → Q 1 sio tt cc d 27 4 [some (.ref 78), some (.int x1), some (.int x2), some (.int x3), g4] [] s o) {x1 : Int32} {x3 : Int32} {y0 : Int32} {y1 : Int32} {x2 : Int32} {x4 : Int32} {s : aS} (hl : Ly tt cc s) {o : xZ × aS} (h : dm27_31 k4 x1 x3 y0 y1 s = some o) : Q 1 sio tt cc d 27 31 [some (.ref 78), some (.int x1), some (.int x2), some (.int x3), some (.int x4)] [.int y1, .int y0] s o := by
  unfold dm27_31 at h
  obtain ⟨d, rfl⟩ : ∃ e, d = e + 1 := ⟨d - 1, by omega⟩
  refine Q.run zm27 4 (i' := 4) (ls' := [some (.ref 78), some (.int x1), some (.int (y0 + y1)), some (.int (x3 + (-8))), some (.int x4)]) (st' := []) rfl ?_
  exact hk4 hl  h
def dm27_20 (s : aS) : Option (xZ × aS) :=
  some (.inr 0, nw s 80 0)
set_option maxRecDepth 100000 in
theorem dt27_20 {sio : Bool} {tt : Nat} {cc : Nat → Nat → Int32} {d : Nat} (hd : 9 ≤ d) {x1 : Int32} {x2 : Int32} {x3 : Int32} {x4 : Int32} {s : aS} (hl : Ly tt cc s) {o : xZ × aS} (h : dm27_20  s = some o) : Q 1 sio tt cc d 27 20 [some (.ref 78), some (.int x1), some (.int x2), some (.int x3), some (.int x4)] [] s o := by
  unfold dm27_20 at h
  obtain ⟨d, rfl⟩ : ∃ e, d = e + 1 := ⟨d - 1, by omega⟩
  cases h
  exact Q.t zm27 (show zM27.2.2.2.2.2[20]? = some (37, 3, .new 58, [200]) from rfl) rfl rfl hl.gL (by omega) hl
def dm27_49 : Nat → Int32 → Int32 → aS → Option (xZ × aS)
  | 0, _, _, _ => none
  | n + 1, x1, x3, s =>
    if x3 < 0 then
      bu (dm28 79 s) fun r4 =>
      some (.inl (some (.int r4)), s)
    else
      if (((x1.toUInt32 >>> (x3.toUInt32 &&& Int32.toUInt32 31)).toInt32) &&& 255) = 0 then
        dm27_63 (dm27_49 n) x1 x3 s
      else
        bu (dm29 79 (((x1.toUInt32 >>> (x3.toUInt32 &&& Int32.toUInt32 31)).toInt32) &&& 255) s) fun s8 =>
        dm27_63 (dm27_49 n) x1 x3 s8
set_option maxRecDepth 100000 in
theorem dt27_49 {sio : Bool} {tt : Nat} {cc : Nat → Nat → Int32} {d : Nat} (hd : 9 ≤ d) : ∀ (n : Nat) {x1 : Int32} {x3 : Int32} {x2 : Int32} {g4 : Option Value} {s : aS} (_ : Ly tt cc s) {o : xZ × aS} (_ : dm27_49  n x1 x3 s = some o), Q 1 sio tt cc d 27 49 [some (.ref 78), some (.int x1), some (.int x2), some (.int x3), g4] [] s o := by
  obtain ⟨d, rfl⟩ : ∃ e, d = e + 1 := ⟨d - 1, by omega⟩
  intro n
  induction n with
  | zero => intro x1 x3 x2 g4 s hl o h; rw [dm27_49] at h; cases h
  | succ n ih =>
    intro x1 x3 x2 g4 s hl o h
    rw [dm27_49] at h
    refine Q.run zm27 1 (i' := 50) (ls' := [some (.ref 78), some (.int x1), some (.int x2), some (.int x3), g4]) (st' := [.int x3]) rfl ?_
    by_cases hc1 : x3 < 0
    · rw [if_pos hc1] at h
      refine Q.map (A.zT (gI_of zm27 (e := (95, 3, .ifCond .lt 32, [65])) rfl) (decide_eq_true hc1)) ?_
      refine Q.run zm27 1 (i' := 66) (ls' := [some (.ref 78), some (.int x1), some (.int x2), some (.int x3), g4]) (st' := [.ref 78]) rfl ?_
      refine Q.map (A.gf (gI_of zm27 (e := (128, 3, .getfield 14, [0, 0])) rfl) (hl.lt (a := 78) (by decide)) (hl.T (a := 78) (p := (0, 7)) 0 rfl rfl) (by decide) (hl.R 0 rfl)) ?_
      obtain ⟨r4, hc3, h⟩ := bu_so h
      have hq2 : Q 1 sio tt cc d 28 0 [some (.ref 79)] [] s (.inl (some (.int r4)), s) := dt28 (by omega) hl (hl.Kd (a := 79) (c := 1) (n := 2) 1 rfl rfl (by decide)) hc3
      refine Q.callI (gC_vi zm27 (show zM27.2.2.2.2.2[67]? = some (131, 3, .invokevirtual 65, [0, 28, 0, 1]) from rfl) zm28 (hl.lt (a := 79) (by decide)) (hl.T (a := 79) (p := (1, 2)) 1 rfl rfl) rfl (show aCr 0 79 [.ref 79] 1 = some ([some (.ref 79)], []) from rfl)) hq2 ?_
      cases h
      exact Q.ret (A.ri zm27 (show zM27.2.2.2.2.2[68]? = some (134, 1, .ireturn, []) from rfl) rfl rfl) hl
    · rw [if_neg hc1] at h
      refine Q.map (A.zF (gI_of zm27 (e := (95, 3, .ifCond .lt 32, [65])) rfl) (fun q => hc1 (of_decide_eq_true q))) ?_
      refine Q.run zm27 7 (i' := 58) (ls' := [some (.ref 78), some (.int x1), some (.int x2), some (.int x3), some (.int (((x1.toUInt32 >>> (x3.toUInt32 &&& Int32.toUInt32 31)).toInt32) &&& 255))]) (st' := [.int (((x1.toUInt32 >>> (x3.toUInt32 &&& Int32.toUInt32 31)).toInt32) &&& 255)]) rfl ?_
      by_cases hc5 : (((x1.toUInt32 >>> (x3.toUInt32 &&& Int32.toUInt32 31)).toInt32) &&& 255) = 0
      · rw [if_pos hc5] at h
        refine Q.map (A.zT (gI_of zm27 (e := (109, 3, .ifCond .eq 12, [63])) rfl) (decide_eq_true hc5)) ?_
        exact dt27_63 hd ih hl  h
      · rw [if_neg hc5] at h
        refine Q.map (A.zF (gI_of zm27 (e := (109, 3, .ifCond .eq 12, [63])) rfl) (fun q => hc5 (of_decide_eq_true q))) ?_
        refine Q.run zm27 1 (i' := 60) (ls' := [some (.ref 78), some (.int x1), some (.int x2), some (.int x3), some (.int (((x1.toUInt32 >>> (x3.toUInt32 &&& Int32.toUInt32 31)).toInt32) &&& 255))]) (st' := [.ref 78]) rfl ?_
        refine Q.map (A.gf (gI_of zm27 (e := (113, 3, .getfield 14, [0, 0])) rfl) (hl.lt (a := 78) (by decide)) (hl.T (a := 78) (p := (0, 7)) 0 rfl rfl) (by decide) (hl.R 0 rfl)) ?_
        refine Q.run zm27 1 (i' := 62) (ls' := [some (.ref 78), some (.int x1), some (.int x2), some (.int x3), some (.int (((x1.toUInt32 >>> (x3.toUInt32 &&& Int32.toUInt32 31)).toInt32) &&& 255))]) (st' := [.int (((x1.toUInt32 >>> (x3.toUInt32 &&& Int32.toUInt32 31)).toInt32) &&& 255), .ref 79]) rfl ?_
        obtain ⟨s8, hc7, h⟩ := bu_so h
        have hq6 : Q 1 sio tt cc d 29 0 [some (.ref 79), some (.int (((x1.toUInt32 >>> (x3.toUInt32 &&& Int32.toUInt32 31)).toInt32) &&& 255))] [] s (.inl none, s8) := dt29 (by omega) hl (hl.Kd (a := 79) (c := 1) (n := 2) 1 rfl rfl (by decide)) hc7
        refine Q.callV (gC_vi zm27 (show zM27.2.2.2.2.2[62]? = some (118, 3, .invokevirtual 74, [0, 29, 1, 1]) from rfl) zm29 (hl.lt (a := 79) (by decide)) (hl.T (a := 79) (p := (1, 2)) 1 rfl rfl) rfl (show aCr 1 79 [.int (((x1.toUInt32 >>> (x3.toUInt32 &&& Int32.toUInt32 31)).toInt32) &&& 255), .ref 79] 2 = some ([some (.ref 79), some (.int (((x1.toUInt32 >>> (x3.toUInt32 &&& Int32.toUInt32 31)).toInt32) &&& 255))], []) from rfl)) hq6 ?_
        exact dt27_63 hd ih hq6.1  h
def dm27_25 (k4 : Int32 → Int32 → Int32 → aS → Option (xZ × aS)) (x1 : Int32) (x2 : Int32) (x3 : Int32) (x4 : Int32) (s : aS) : Option (xZ × aS) :=
  if x4 = 0 then
    dm27_31 k4 x1 x3 x2 0 s
  else
    dm27_31 k4 x1 x3 x2 1 s
set_option maxRecDepth 100000 in
theorem dt27_25 {sio : Bool} {tt : Nat} {cc : Nat → Nat → Int32} {d : Nat} (hd : 9 ≤ d) {k4 : Int32 → Int32 → Int32 → aS → Option (xZ × aS)} (hk4 : ∀ {x1 : Int32} {x2 : Int32} {x3 : Int32} {g4 : Option Value} {s : aS}, Ly tt cc s → ∀ {o : xZ × aS}, k4 x1 x2 x3 s = some o → Q 1 sio tt cc d 27 4 [some (.ref 78), some (.int x1), some (.int x2), some (.int x3), g4] [] s o) {x1 : Int32} {x2 : Int32} {x3 : Int32} {x4 : Int32} {s : aS} (hl : Ly tt cc s) {o : xZ × aS} (h : dm27_25 k4 x1 x2 x3 x4 s = some o) : Q 1 sio tt cc d 27 25 [some (.ref 78), some (.int x1), some (.int x2), some (.int x3), some (.int x4)] [] s o := by
  unfold dm27_25 at h
  obtain ⟨d, rfl⟩ : ∃ e, d = e + 1 := ⟨d - 1, by omega⟩
  refine Q.run zm27 2 (i' := 27) (ls' := [some (.ref 78), some (.int x1), some (.int x2), some (.int x3), some (.int x4)]) (st' := [.int x4, .int x2]) rfl ?_
  by_cases hc1 : x4 = 0
  · rw [if_pos hc1] at h
    refine Q.map (A.zT (gI_of zm27 (e := (50, 3, .ifCond .eq 7, [30])) rfl) (decide_eq_true hc1)) ?_
    refine Q.run zm27 1 (i' := 31) (ls' := [some (.ref 78), some (.int x1), some (.int x2), some (.int x3), some (.int x4)]) (st' := [.int 0, .int x2]) rfl ?_
    exact dt27_31 hd hk4 hl  h
  · rw [if_neg hc1] at h
    refine Q.map (A.zF (gI_of zm27 (e := (50, 3, .ifCond .eq 7, [30])) rfl) (fun q => hc1 (of_decide_eq_true q))) ?_
    refine Q.run zm27 2 (i' := 31) (ls' := [some (.ref 78), some (.int x1), some (.int x2), some (.int x3), some (.int x4)]) (st' := [.int 1, .int x2]) rfl ?_
    exact dt27_31 hd hk4 hl  h
def dm27_4 : Nat → Int32 → Int32 → Int32 → aS → Option (xZ × aS)
  | 0, _, _, _, _ => none
  | n + 1, x1, x2, x3, s =>
    if x3 < 0 then
      bu (dm28 79 s) fun r4 =>
      if (r4 + x2) ≤ 256 then
        dm27_49 5000 x1 24 s
      else
        some (.inr 1, nw s 81 0)
    else
      if (((x1.toUInt32 >>> (x3.toUInt32 &&& Int32.toUInt32 31)).toInt32) &&& 255) = 0 then
        dm27_25 (dm27_4 n) x1 x2 x3 (((x1.toUInt32 >>> (x3.toUInt32 &&& Int32.toUInt32 31)).toInt32) &&& 255) s
      else
        if (((x1.toUInt32 >>> (x3.toUInt32 &&& Int32.toUInt32 31)).toInt32) &&& 255) < 32 then
          dm27_20 s
        else
          if (((x1.toUInt32 >>> (x3.toUInt32 &&& Int32.toUInt32 31)).toInt32) &&& 255) ≤ 126 then
            dm27_25 (dm27_4 n) x1 x2 x3 (((x1.toUInt32 >>> (x3.toUInt32 &&& Int32.toUInt32 31)).toInt32) &&& 255) s
          else
            dm27_20 s
set_option maxRecDepth 100000 in
theorem dt27_4 {sio : Bool} {tt : Nat} {cc : Nat → Nat → Int32} {d : Nat} (hd : 9 ≤ d) : ∀ (n : Nat) {x1 : Int32} {x2 : Int32} {x3 : Int32} {g4 : Option Value} {s : aS} (_ : Ly tt cc s) {o : xZ × aS} (_ : dm27_4  n x1 x2 x3 s = some o), Q 1 sio tt cc d 27 4 [some (.ref 78), some (.int x1), some (.int x2), some (.int x3), g4] [] s o := by
  obtain ⟨d, rfl⟩ : ∃ e, d = e + 1 := ⟨d - 1, by omega⟩
  intro n
  induction n with
  | zero => intro x1 x2 x3 g4 s hl o h; rw [dm27_4] at h; cases h
  | succ n ih =>
    intro x1 x2 x3 g4 s hl o h
    rw [dm27_4] at h
    refine Q.run zm27 1 (i' := 5) (ls' := [some (.ref 78), some (.int x1), some (.int x2), some (.int x3), g4]) (st' := [.int x3]) rfl ?_
    by_cases hc1 : x3 < 0
    · rw [if_pos hc1] at h
      refine Q.map (A.zT (gI_of zm27 (e := (6, 3, .ifCond .lt 60, [35])) rfl) (decide_eq_true hc1)) ?_
      refine Q.run zm27 1 (i' := 36) (ls' := [some (.ref 78), some (.int x1), some (.int x2), some (.int x3), g4]) (st' := [.ref 78]) rfl ?_
      refine Q.map (A.gf (gI_of zm27 (e := (67, 3, .getfield 14, [0, 0])) rfl) (hl.lt (a := 78) (by decide)) (hl.T (a := 78) (p := (0, 7)) 0 rfl rfl) (by decide) (hl.R 0 rfl)) ?_
      obtain ⟨r4, hc3, h⟩ := bu_so h
      have hq2 : Q 1 sio tt cc d 28 0 [some (.ref 79)] [] s (.inl (some (.int r4)), s) := dt28 (by omega) hl (hl.Kd (a := 79) (c := 1) (n := 2) 1 rfl rfl (by decide)) hc3
      refine Q.callI (gC_vi zm27 (show zM27.2.2.2.2.2[37]? = some (70, 3, .invokevirtual 65, [0, 28, 0, 1]) from rfl) zm28 (hl.lt (a := 79) (by decide)) (hl.T (a := 79) (p := (1, 2)) 1 rfl rfl) rfl (show aCr 0 79 [.ref 79] 1 = some ([some (.ref 79)], []) from rfl)) hq2 ?_
      refine Q.run zm27 3 (i' := 41) (ls' := [some (.ref 78), some (.int x1), some (.int x2), some (.int x3), g4]) (st' := [.int 256, .int (r4 + x2)]) rfl ?_
      by_cases hc5 : (r4 + x2) ≤ 256
      · rw [if_pos hc5] at h
        refine Q.map (A.bT (gI_of zm27 (e := (78, 3, .if_icmp .le 13, [47])) rfl) (decide_eq_true hc5)) ?_
        refine Q.run zm27 2 (i' := 49) (ls' := [some (.ref 78), some (.int x1), some (.int x2), some (.int 24), g4]) (st' := []) rfl ?_
        exact dt27_49 hd _ hl  h
      · rw [if_neg hc5] at h
        refine Q.map (A.bF (gI_of zm27 (e := (78, 3, .if_icmp .le 13, [47])) rfl) (fun q => hc5 (of_decide_eq_true q))) ?_
        cases h
        exact Q.t zm27 (show zM27.2.2.2.2.2[42]? = some (81, 3, .new 69, [201]) from rfl) rfl rfl hl.gL (by omega) hl
    · rw [if_neg hc1] at h
      refine Q.map (A.zF (gI_of zm27 (e := (6, 3, .ifCond .lt 60, [35])) rfl) (fun q => hc1 (of_decide_eq_true q))) ?_
      refine Q.run zm27 7 (i' := 13) (ls' := [some (.ref 78), some (.int x1), some (.int x2), some (.int x3), some (.int (((x1.toUInt32 >>> (x3.toUInt32 &&& Int32.toUInt32 31)).toInt32) &&& 255))]) (st' := [.int (((x1.toUInt32 >>> (x3.toUInt32 &&& Int32.toUInt32 31)).toInt32) &&& 255)]) rfl ?_
      by_cases hc6 : (((x1.toUInt32 >>> (x3.toUInt32 &&& Int32.toUInt32 31)).toInt32) &&& 255) = 0
      · rw [if_pos hc6] at h
        refine Q.map (A.zT (gI_of zm27 (e := (20, 3, .ifCond .eq 27, [25])) rfl) (decide_eq_true hc6)) ?_
        exact dt27_25 hd ih hl  h
      · rw [if_neg hc6] at h
        refine Q.map (A.zF (gI_of zm27 (e := (20, 3, .ifCond .eq 27, [25])) rfl) (fun q => hc6 (of_decide_eq_true q))) ?_
        refine Q.run zm27 2 (i' := 16) (ls' := [some (.ref 78), some (.int x1), some (.int x2), some (.int x3), some (.int (((x1.toUInt32 >>> (x3.toUInt32 &&& Int32.toUInt32 31)).toInt32) &&& 255))]) (st' := [.int 32, .int (((x1.toUInt32 >>> (x3.toUInt32 &&& Int32.toUInt32 31)).toInt32) &&& 255)]) rfl ?_
        by_cases hc7 : (((x1.toUInt32 >>> (x3.toUInt32 &&& Int32.toUInt32 31)).toInt32) &&& 255) < 32
        · rw [if_pos hc7] at h
          refine Q.map (A.bT (gI_of zm27 (e := (27, 3, .if_icmp .lt 10, [20])) rfl) (decide_eq_true hc7)) ?_
          exact dt27_20 hd hl  h
        · rw [if_neg hc7] at h
          refine Q.map (A.bF (gI_of zm27 (e := (27, 3, .if_icmp .lt 10, [20])) rfl) (fun q => hc7 (of_decide_eq_true q))) ?_
          refine Q.run zm27 2 (i' := 19) (ls' := [some (.ref 78), some (.int x1), some (.int x2), some (.int x3), some (.int (((x1.toUInt32 >>> (x3.toUInt32 &&& Int32.toUInt32 31)).toInt32) &&& 255))]) (st' := [.int 126, .int (((x1.toUInt32 >>> (x3.toUInt32 &&& Int32.toUInt32 31)).toInt32) &&& 255)]) rfl ?_
          by_cases hc8 : (((x1.toUInt32 >>> (x3.toUInt32 &&& Int32.toUInt32 31)).toInt32) &&& 255) ≤ 126
          · rw [if_pos hc8] at h
            refine Q.map (A.bT (gI_of zm27 (e := (34, 3, .if_icmp .le 13, [25])) rfl) (decide_eq_true hc8)) ?_
            exact dt27_25 hd ih hl  h
          · rw [if_neg hc8] at h
            refine Q.map (A.bF (gI_of zm27 (e := (34, 3, .if_icmp .le 13, [25])) rfl) (fun q => hc8 (of_decide_eq_true q))) ?_
            exact dt27_20 hd hl  h
def dm27 (x1 : Int32) (s : aS) : Option (xZ × aS) :=
  dm27_4 5000 x1 0 24 s
set_option maxRecDepth 100000 in
theorem dt27 {sio : Bool} {tt : Nat} {cc : Nat → Nat → Int32} {d : Nat} (hd : 9 ≤ d) {x1 : Int32} {s : aS} (hl : Ly tt cc s) {o : xZ × aS} (h : dm27  x1 s = some o) : Q 1 sio tt cc d 27 0 [some (.ref 78), some (.int x1), none, none, none] [] s o := by
  unfold dm27 at h
  obtain ⟨d, rfl⟩ : ∃ e, d = e + 1 := ⟨d - 1, by omega⟩
  refine Q.run zm27 4 (i' := 4) (ls' := [some (.ref 78), some (.int x1), some (.int 0), some (.int 24), none]) (st' := []) rfl ?_
  exact dt27_4 hd _ hl  h
/-! 1 FormulaTreesLaw.type(LFormulaTrees;I[J)I -/
set_option maxRecDepth 100000 in
theorem zm1 : zP[1]? = some zM1 := rfl
def dm1 (x1 : Int32) (s : aS) : Option (Int32 × aS) :=
  bv (dm27 x1 s) fun z4 s3 =>
  zN z4 (fun v5 =>
    vI v5 fun r7 =>
    if aB 0 1 then
      nx (wJ s3 148 (jN 0) r7.toInt64) fun s10 =>
      some (0, s10)
    else none
  ) fun e6 =>
    if e6 = 0 then
      some (1, s3)
    else
      if e6 = 1 then
        some (2, s3)
      else
        none
set_option maxRecDepth 100000 in
theorem dt1 {sio : Bool} {tt : Nat} {cc : Nat → Nat → Int32} {d : Nat} (hd : 10 ≤ d) {x1 : Int32} {s : aS} (hl : Ly tt cc s) {o : Int32 × aS} (h : dm1  x1 s = some o) : Q 1 sio tt cc d 1 0 [some (.ref 78), some (.int x1), some (.ref 148), none] [] s (.inl (some (.int o.1)), o.2) := by
  unfold dm1 at h
  obtain ⟨d, rfl⟩ : ∃ e, d = e + 1 := ⟨d - 1, by omega⟩
  refine Q.run zm1 4 (i' := 4) (ls' := [some (.ref 78), some (.int x1), some (.ref 148), none]) (st' := [.int x1, .ref 78, .int 0, .ref 148]) rfl ?_
  obtain ⟨z4, s3, hc2, h⟩ := bv_so h
  have hq1 : Q 1 sio tt cc d 27 0 [some (.ref 78), some (.int x1), none, none, none] [] s (z4, s3) := dt27 (by omega) hl  hc2
  rcases zN_so h with ⟨v5, hz13, h8⟩ | ⟨e6, hz13, h8⟩
  · clear h
    subst hz13
    have h := h8
    obtain ⟨r7, hv8, h9⟩ := vI_so h
    clear h
    subst hv8
    have h := h9
    refine Q.callI (gC_vi zm1 (show zM1.2.2.2.2.2[4]? = some (4, 3, .invokevirtual 7, [0, 27, 1, 0]) from rfl) zm27 (hl.lt (a := 78) (by decide)) (hl.T (a := 78) (p := (0, 7)) 0 rfl rfl) rfl (show aCr 1 78 [.int x1, .ref 78, .int 0, .ref 148] 5 = some ([some (.ref 78), some (.int x1), none, none, none], [.int 0, .ref 148]) from rfl)) hq1 ?_
    refine Q.run zm1 1 (i' := 6) (ls' := [some (.ref 78), some (.int x1), some (.ref 148), none]) (st' := [.long r7.toInt64, .int 0, .ref 148]) rfl ?_
    obtain ⟨hc9, h⟩ := ite_so h
    obtain ⟨s10, hs11, h⟩ := nx_so h
    refine Q.lS hs11 rfl (gI_of zm1 (e := (8, 1, .lastore, [])) rfl) (hq1.1.lt (a := 148) (by decide)) (by decide) (hq1.1.T (a := 148) (p := (104, 1)) 70 rfl rfl) hc9 ?_
    have hl12 : Ly tt cc s10 := by rw [hs11]; exact hq1.1.wJd
    refine Q.run zm1 2 (i' := 15) (ls' := [some (.ref 78), some (.int x1), some (.ref 148), none]) (st' := [.int 0]) rfl ?_
    cases h
    exact Q.ret (A.ri zm1 (show zM1.2.2.2.2.2[15]? = some (19, 1, .ireturn, []) from rfl) rfl rfl) hl12
  · clear h
    subst hz13
    have h := h8
    by_cases hc14 : e6 = 0
    · rw [if_pos hc14] at h
      subst hc14
      refine Q.hc (gC_vi zm1 (show zM1.2.2.2.2.2[4]? = some (4, 3, .invokevirtual 7, [0, 27, 1, 0]) from rfl) zm27 (hl.lt (a := 78) (by decide)) (hl.T (a := 78) (p := (0, 7)) 0 rfl rfl) rfl (show aCr 1 78 [.int x1, .ref 78, .int 0, .ref 148] 5 = some ([some (.ref 78), some (.int x1), none, none, none], [.int 0, .ref 148]) from rfl)) hq1 (t := 8) rfl ?_
      refine Q.run zm1 2 (i' := 10) (ls' := [some (.ref 78), some (.int x1), some (.ref 148), some (.ref (sL s3 - 1))]) (st' := [.int 1]) rfl ?_
      cases h
      exact Q.ret (A.ri zm1 (show zM1.2.2.2.2.2[10]? = some (14, 1, .ireturn, []) from rfl) rfl rfl) hq1.1
    · rw [if_neg hc14] at h
      by_cases hc15 : e6 = 1
      · rw [if_pos hc15] at h
        subst hc15
        refine Q.hc (gC_vi zm1 (show zM1.2.2.2.2.2[4]? = some (4, 3, .invokevirtual 7, [0, 27, 1, 0]) from rfl) zm27 (hl.lt (a := 78) (by decide)) (hl.T (a := 78) (p := (0, 7)) 0 rfl rfl) rfl (show aCr 1 78 [.int x1, .ref 78, .int 0, .ref 148] 5 = some ([some (.ref 78), some (.int x1), none, none, none], [.int 0, .ref 148]) from rfl)) hq1 (t := 11) rfl ?_
        refine Q.run zm1 2 (i' := 13) (ls' := [some (.ref 78), some (.int x1), some (.ref 148), some (.ref (sL s3 - 1))]) (st' := [.int 2]) rfl ?_
        cases h
        exact Q.ret (A.ri zm1 (show zM1.2.2.2.2.2[13]? = some (17, 1, .ireturn, []) from rfl) rfl rfl) hq1.1
      · rw [if_neg hc15] at h
        cases h
/-! 172 FormulaTreesModel.type(I)I -/
set_option maxRecDepth 100000 in
theorem zm172 : zP[172]? = some zM172 := rfl
def dm172_92 (k65 : Int32 → Int32 → aS → Option (Int32 × aS)) (x1 : Int32) (x4 : Int32) (s : aS) : Option (Int32 × aS) :=
  k65 x1 (x4 + 1) s
set_option maxRecDepth 100000 in
theorem dt172_92 {sio : Bool} {tt : Nat} {cc : Nat → Nat → Int32} {d : Nat} (hd : 0 ≤ d) {k65 : Int32 → Int32 → aS → Option (Int32 × aS)} (hk65 : ∀ {x1 : Int32} {x4 : Int32} {x2 : Int32} {x3 : Int32} {g5 : Option Value} {s : aS}, Ly tt cc s → ∀ {o : Int32 × aS}, k65 x1 x4 s = some o → Q 2 sio tt cc d 172 65 [some (.ref 121), some (.int x1), some (.int x2), some (.int x3), some (.int x4), g5] [] s (.inl (some (.int o.1)), o.2)) {x1 : Int32} {x4 : Int32} {x2 : Int32} {x3 : Int32} {x5 : Int32} {s : aS} (hl : Ly tt cc s) {o : Int32 × aS} (h : dm172_92 k65 x1 x4 s = some o) : Q 2 sio tt cc d 172 92 [some (.ref 121), some (.int x1), some (.int x2), some (.int x3), some (.int x4), some (.int x5)] [] s (.inl (some (.int o.1)), o.2) := by
  unfold dm172_92 at h
  refine Q.run zm172 2 (i' := 65) (ls' := [some (.ref 121), some (.int x1), some (.int x2), some (.int x3), some (.int (x4 + 1)), some (.int x5)]) (st' := []) rfl ?_
  exact hk65 hl  h
def dm172_40 (k6 : Int32 → Int32 → Int32 → Int32 → aS → Option (Int32 × aS)) (x1 : Int32) (x2 : Int32) (x4 : Int32) (y0 : Int32) (s : aS) : Option (Int32 × aS) :=
  k6 x1 x2 y0 (x4 + 1) s
set_option maxRecDepth 100000 in
theorem dt172_40 {sio : Bool} {tt : Nat} {cc : Nat → Nat → Int32} {d : Nat} (hd : 0 ≤ d) {k6 : Int32 → Int32 → Int32 → Int32 → aS → Option (Int32 × aS)} (hk6 : ∀ {x1 : Int32} {x2 : Int32} {x3 : Int32} {x4 : Int32} {g5 : Option Value} {s : aS}, Ly tt cc s → ∀ {o : Int32 × aS}, k6 x1 x2 x3 x4 s = some o → Q 2 sio tt cc d 172 6 [some (.ref 121), some (.int x1), some (.int x2), some (.int x3), some (.int x4), g5] [] s (.inl (some (.int o.1)), o.2)) {x1 : Int32} {x2 : Int32} {x4 : Int32} {y0 : Int32} {x3 : Int32} {x5 : Int32} {s : aS} (hl : Ly tt cc s) {o : Int32 × aS} (h : dm172_40 k6 x1 x2 x4 y0 s = some o) : Q 2 sio tt cc d 172 40 [some (.ref 121), some (.int x1), some (.int x2), some (.int x3), some (.int x4), some (.int x5)] [.int y0] s (.inl (some (.int o.1)), o.2) := by
  unfold dm172_40 at h
  refine Q.run zm172 3 (i' := 6) (ls' := [some (.ref 121), some (.int x1), some (.int x2), some (.int y0), some (.int (x4 + 1)), some (.int x5)]) (st' := []) rfl ?_
  exact hk6 hl  h
def dm172_65 : Nat → Int32 → Int32 → aS → Option (Int32 × aS)
  | 0, _, _, _ => none
  | n + 1, x1, x4, s =>
    if 4 ≤ x4 then
      some (sI s 121 1, s)
    else
      if ((x1 >>> ((24 - (8 * x4)) &&& 31)) &&& 255) ≤ 0 then
        dm172_92 (dm172_65 n) x1 x4 s
      else
        if aB (sI s 121 1) 256 then
          nx (wI s 122 (jN (sI s 121 1)) ((x1 >>> ((24 - (8 * x4)) &&& 31)) &&& 255)) fun s4 =>
          nx (wI s4 121 1 ((sI s4 121 1) + 1)) fun s7 =>
          dm172_92 (dm172_65 n) x1 x4 s7
        else none
set_option maxRecDepth 100000 in
theorem dt172_65 {sio : Bool} {tt : Nat} {cc : Nat → Nat → Int32} {d : Nat} (hd : 0 ≤ d) : ∀ (n : Nat) {x1 : Int32} {x4 : Int32} {x2 : Int32} {x3 : Int32} {g5 : Option Value} {s : aS} (_ : Ly tt cc s) {o : Int32 × aS} (_ : dm172_65  n x1 x4 s = some o), Q 2 sio tt cc d 172 65 [some (.ref 121), some (.int x1), some (.int x2), some (.int x3), some (.int x4), g5] [] s (.inl (some (.int o.1)), o.2) := by
  intro n
  induction n with
  | zero => intro x1 x4 x2 x3 g5 s hl o h; rw [dm172_65] at h; cases h
  | succ n ih =>
    intro x1 x4 x2 x3 g5 s hl o h
    rw [dm172_65] at h
    refine Q.run zm172 2 (i' := 67) (ls' := [some (.ref 121), some (.int x1), some (.int x2), some (.int x3), some (.int x4), g5]) (st' := [.int 4, .int x4]) rfl ?_
    by_cases hc1 : 4 ≤ x4
    · rw [if_pos hc1] at h
      refine Q.map (A.bT (gI_of zm172 (e := (121, 3, .if_icmp .ge 51, [94])) rfl) (decide_eq_true hc1)) ?_
      refine Q.run zm172 1 (i' := 95) (ls' := [some (.ref 121), some (.int x1), some (.int x2), some (.int x3), some (.int x4), g5]) (st' := [.ref 121]) rfl ?_
      refine Q.map (A.gf (gI_of zm172 (e := (173, 3, .getfield 103, [9, 1])) rfl) (hl.lt (a := 121) (by decide)) (hl.T (a := 121) (p := (9, 45)) 43 rfl rfl) (by decide) rfl) ?_
      cases h
      exact Q.ret (A.ri zm172 (show zM172.2.2.2.2.2[96]? = some (176, 1, .ireturn, []) from rfl) rfl rfl) hl
    · rw [if_neg hc1] at h
      refine Q.map (A.bF (gI_of zm172 (e := (121, 3, .if_icmp .ge 51, [94])) rfl) (fun q => hc1 (of_decide_eq_true q))) ?_
      refine Q.run zm172 11 (i' := 79) (ls' := [some (.ref 121), some (.int x1), some (.int x2), some (.int x3), some (.int x4), some (.int ((x1 >>> ((24 - (8 * x4)) &&& 31)) &&& 255))]) (st' := [.int ((x1 >>> ((24 - (8 * x4)) &&& 31)) &&& 255)]) rfl ?_
      by_cases hc2 : ((x1 >>> ((24 - (8 * x4)) &&& 31)) &&& 255) ≤ 0
      · rw [if_pos hc2] at h
        refine Q.map (A.zT (gI_of zm172 (e := (142, 3, .ifCond .le 24, [92])) rfl) (decide_eq_true hc2)) ?_
        exact dt172_92 hd ih hl  h
      · rw [if_neg hc2] at h
        refine Q.map (A.zF (gI_of zm172 (e := (142, 3, .ifCond .le 24, [92])) rfl) (fun q => hc2 (of_decide_eq_true q))) ?_
        refine Q.run zm172 1 (i' := 81) (ls' := [some (.ref 121), some (.int x1), some (.int x2), some (.int x3), some (.int x4), some (.int ((x1 >>> ((24 - (8 * x4)) &&& 31)) &&& 255))]) (st' := [.ref 121]) rfl ?_
        refine Q.map (A.gf (gI_of zm172 (e := (146, 3, .getfield 7, [9, 2])) rfl) (hl.lt (a := 121) (by decide)) (hl.T (a := 121) (p := (9, 45)) 43 rfl rfl) (by decide) (hl.R 23 rfl)) ?_
        refine Q.run zm172 1 (i' := 83) (ls' := [some (.ref 121), some (.int x1), some (.int x2), some (.int x3), some (.int x4), some (.int ((x1 >>> ((24 - (8 * x4)) &&& 31)) &&& 255))]) (st' := [.ref 121, .ref 122]) rfl ?_
        refine Q.map (A.gf (gI_of zm172 (e := (150, 3, .getfield 103, [9, 1])) rfl) (hl.lt (a := 121) (by decide)) (hl.T (a := 121) (p := (9, 45)) 43 rfl rfl) (by decide) rfl) ?_
        refine Q.run zm172 1 (i' := 85) (ls' := [some (.ref 121), some (.int x1), some (.int x2), some (.int x3), some (.int x4), some (.int ((x1 >>> ((24 - (8 * x4)) &&& 31)) &&& 255))]) (st' := [.int ((x1 >>> ((24 - (8 * x4)) &&& 31)) &&& 255), .int (sI s 121 1), .ref 122]) rfl ?_
        obtain ⟨hc3, h⟩ := ite_so h
        obtain ⟨s4, hs5, h⟩ := nx_so h
        refine Q.is hs5 rfl (gI_of zm172 (e := (155, 1, .iastore, [])) rfl) (hl.lt (a := 122) (by decide)) (by decide) (hl.T (a := 122) (p := (100, 256)) 44 rfl rfl) hc3 ?_
        have hl6 : Ly tt cc s4 := by rw [hs5]; exact hl.wId (by decide)
        refine Q.run zm172 2 (i' := 88) (ls' := [some (.ref 121), some (.int x1), some (.int x2), some (.int x3), some (.int x4), some (.int ((x1 >>> ((24 - (8 * x4)) &&& 31)) &&& 255))]) (st' := [.ref 121, .ref 121]) rfl ?_
        refine Q.map (A.gf (gI_of zm172 (e := (158, 3, .getfield 103, [9, 1])) rfl) (hl6.lt (a := 121) (by decide)) (hl6.T (a := 121) (p := (9, 45)) 43 rfl rfl) (by decide) rfl) ?_
        refine Q.run zm172 2 (i' := 91) (ls' := [some (.ref 121), some (.int x1), some (.int x2), some (.int x3), some (.int x4), some (.int ((x1 >>> ((24 - (8 * x4)) &&& 31)) &&& 255))]) (st' := [.int ((sI s4 121 1) + 1), .ref 121]) rfl ?_
        obtain ⟨s7, hs8, h⟩ := nx_so h
        refine Q.pf hs8 rfl (gI_of zm172 (e := (163, 3, .putfield 103, [9, 1, 0])) rfl) (hl6.lt (a := 121) (by decide)) (by decide) (hl6.T (a := 121) (p := (9, 45)) 43 rfl rfl) (by decide) rfl rfl ?_
        have hl9 : Ly tt cc s7 := by rw [hs8]; exact hl6.wId (by decide)
        exact dt172_92 hd ih hl9  h
def dm172_39 (k6 : Int32 → Int32 → Int32 → Int32 → aS → Option (Int32 × aS)) (x1 : Int32) (x2 : Int32) (x4 : Int32) (s : aS) : Option (Int32 × aS) :=
  dm172_40 k6 x1 x2 x4 0 s
set_option maxRecDepth 100000 in
theorem dt172_39 {sio : Bool} {tt : Nat} {cc : Nat → Nat → Int32} {d : Nat} (hd : 0 ≤ d) {k6 : Int32 → Int32 → Int32 → Int32 → aS → Option (Int32 × aS)} (hk6 : ∀ {x1 : Int32} {x2 : Int32} {x3 : Int32} {x4 : Int32} {g5 : Option Value} {s : aS}, Ly tt cc s → ∀ {o : Int32 × aS}, k6 x1 x2 x3 x4 s = some o → Q 2 sio tt cc d 172 6 [some (.ref 121), some (.int x1), some (.int x2), some (.int x3), some (.int x4), g5] [] s (.inl (some (.int o.1)), o.2)) {x1 : Int32} {x2 : Int32} {x4 : Int32} {x3 : Int32} {x5 : Int32} {s : aS} (hl : Ly tt cc s) {o : Int32 × aS} (h : dm172_39 k6 x1 x2 x4 s = some o) : Q 2 sio tt cc d 172 39 [some (.ref 121), some (.int x1), some (.int x2), some (.int x3), some (.int x4), some (.int x5)] [] s (.inl (some (.int o.1)), o.2) := by
  unfold dm172_39 at h
  refine Q.run zm172 1 (i' := 40) (ls' := [some (.ref 121), some (.int x1), some (.int x2), some (.int x3), some (.int x4), some (.int x5)]) (st' := [.int 0]) rfl ?_
  exact dt172_40 hd hk6 hl  h
def dm172_37 (k6 : Int32 → Int32 → Int32 → Int32 → aS → Option (Int32 × aS)) (x1 : Int32) (x2 : Int32) (x4 : Int32) (s : aS) : Option (Int32 × aS) :=
  dm172_40 k6 x1 x2 x4 1 s
set_option maxRecDepth 100000 in
theorem dt172_37 {sio : Bool} {tt : Nat} {cc : Nat → Nat → Int32} {d : Nat} (hd : 0 ≤ d) {k6 : Int32 → Int32 → Int32 → Int32 → aS → Option (Int32 × aS)} (hk6 : ∀ {x1 : Int32} {x2 : Int32} {x3 : Int32} {x4 : Int32} {g5 : Option Value} {s : aS}, Ly tt cc s → ∀ {o : Int32 × aS}, k6 x1 x2 x3 x4 s = some o → Q 2 sio tt cc d 172 6 [some (.ref 121), some (.int x1), some (.int x2), some (.int x3), some (.int x4), g5] [] s (.inl (some (.int o.1)), o.2)) {x1 : Int32} {x2 : Int32} {x4 : Int32} {x3 : Int32} {x5 : Int32} {s : aS} (hl : Ly tt cc s) {o : Int32 × aS} (h : dm172_37 k6 x1 x2 x4 s = some o) : Q 2 sio tt cc d 172 37 [some (.ref 121), some (.int x1), some (.int x2), some (.int x3), some (.int x4), some (.int x5)] [] s (.inl (some (.int o.1)), o.2) := by
  unfold dm172_37 at h
  refine Q.run zm172 2 (i' := 40) (ls' := [some (.ref 121), some (.int x1), some (.int x2), some (.int x3), some (.int x4), some (.int x5)]) (st' := [.int 1]) rfl ?_
  exact dt172_40 hd hk6 hl  h
def dm172_57 (x1 : Int32) (y1 : Int32) (s : aS) : Option (Int32 × aS) :=
  nx (wI s 121 0 y1) fun s1 =>
  if (sI s1 121 0) ≤ 0 then
    dm172_65 5000 x1 0 s1
  else
    some (0, s1)
set_option maxRecDepth 100000 in
theorem dt172_57 {sio : Bool} {tt : Nat} {cc : Nat → Nat → Int32} {d : Nat} (hd : 0 ≤ d) {x1 : Int32} {y1 : Int32} {x2 : Int32} {x3 : Int32} {x4 : Int32} {g5 : Option Value} {s : aS} (hl : Ly tt cc s) {o : Int32 × aS} (h : dm172_57  x1 y1 s = some o) : Q 2 sio tt cc d 172 57 [some (.ref 121), some (.int x1), some (.int x2), some (.int x3), some (.int x4), g5] [.int y1, .ref 121] s (.inl (some (.int o.1)), o.2) := by
  unfold dm172_57 at h
  obtain ⟨s1, hs2, h⟩ := nx_so h
  refine Q.pf hs2 rfl (gI_of zm172 (e := (103, 3, .putfield 89, [9, 0, 0])) rfl) (hl.lt (a := 121) (by decide)) (by decide) (hl.T (a := 121) (p := (9, 45)) 43 rfl rfl) (by decide) rfl rfl ?_
  have hl3 : Ly tt cc s1 := by rw [hs2]; exact hl.wId (by decide)
  refine Q.run zm172 1 (i' := 59) (ls' := [some (.ref 121), some (.int x1), some (.int x2), some (.int x3), some (.int x4), g5]) (st' := [.ref 121]) rfl ?_
  refine Q.map (A.gf (gI_of zm172 (e := (107, 3, .getfield 89, [9, 0])) rfl) (hl3.lt (a := 121) (by decide)) (hl3.T (a := 121) (p := (9, 45)) 43 rfl rfl) (by decide) rfl) ?_
  by_cases hc4 : (sI s1 121 0) ≤ 0
  · rw [if_pos hc4] at h
    refine Q.map (A.zT (gI_of zm172 (e := (110, 3, .ifCond .le 5, [63])) rfl) (decide_eq_true hc4)) ?_
    refine Q.run zm172 2 (i' := 65) (ls' := [some (.ref 121), some (.int x1), some (.int x2), some (.int x3), some (.int 0), g5]) (st' := []) rfl ?_
    exact dt172_65 hd _ hl3  h
  · rw [if_neg hc4] at h
    refine Q.map (A.zF (gI_of zm172 (e := (110, 3, .ifCond .le 5, [63])) rfl) (fun q => hc4 (of_decide_eq_true q))) ?_
    refine Q.run zm172 1 (i' := 62) (ls' := [some (.ref 121), some (.int x1), some (.int x2), some (.int x3), some (.int x4), g5]) (st' := [.int 0]) rfl ?_
    cases h
    exact Q.ret (A.ri zm172 (show zM172.2.2.2.2.2[62]? = some (114, 1, .ireturn, []) from rfl) rfl rfl) hl3
def dm172_26 (k6 : Int32 → Int32 → Int32 → Int32 → aS → Option (Int32 × aS)) (x1 : Int32) (x3 : Int32) (x4 : Int32) (x5 : Int32) (y0 : Int32) (s : aS) : Option (Int32 × aS) :=
  if x3 = 0 then
    if x5 ≤ 0 then
      dm172_39 k6 x1 y0 x4 s
    else
      if x5 < 32 then
        dm172_37 k6 x1 y0 x4 s
      else
        if x5 ≤ 126 then
          dm172_39 k6 x1 y0 x4 s
        else
          dm172_37 k6 x1 y0 x4 s
  else
    dm172_37 k6 x1 y0 x4 s
set_option maxRecDepth 100000 in
theorem dt172_26 {sio : Bool} {tt : Nat} {cc : Nat → Nat → Int32} {d : Nat} (hd : 0 ≤ d) {k6 : Int32 → Int32 → Int32 → Int32 → aS → Option (Int32 × aS)} (hk6 : ∀ {x1 : Int32} {x2 : Int32} {x3 : Int32} {x4 : Int32} {g5 : Option Value} {s : aS}, Ly tt cc s → ∀ {o : Int32 × aS}, k6 x1 x2 x3 x4 s = some o → Q 2 sio tt cc d 172 6 [some (.ref 121), some (.int x1), some (.int x2), some (.int x3), some (.int x4), g5] [] s (.inl (some (.int o.1)), o.2)) {x1 : Int32} {x3 : Int32} {x4 : Int32} {x5 : Int32} {y0 : Int32} {x2 : Int32} {s : aS} (hl : Ly tt cc s) {o : Int32 × aS} (h : dm172_26 k6 x1 x3 x4 x5 y0 s = some o) : Q 2 sio tt cc d 172 26 [some (.ref 121), some (.int x1), some (.int x2), some (.int x3), some (.int x4), some (.int x5)] [.int y0] s (.inl (some (.int o.1)), o.2) := by
  unfold dm172_26 at h
  refine Q.run zm172 2 (i' := 28) (ls' := [some (.ref 121), some (.int x1), some (.int y0), some (.int x3), some (.int x4), some (.int x5)]) (st' := [.int x3]) rfl ?_
  by_cases hc1 : x3 = 0
  · rw [if_pos hc1] at h
    refine Q.map (A.zF (gI_of zm172 (e := (43, 3, .ifCond .ne 22, [37])) rfl) (fun q => of_decide_eq_true q hc1)) ?_
    refine Q.run zm172 1 (i' := 30) (ls' := [some (.ref 121), some (.int x1), some (.int y0), some (.int x3), some (.int x4), some (.int x5)]) (st' := [.int x5]) rfl ?_
    by_cases hc2 : x5 ≤ 0
    · rw [if_pos hc2] at h
      refine Q.map (A.zT (gI_of zm172 (e := (48, 3, .ifCond .le 21, [39])) rfl) (decide_eq_true hc2)) ?_
      exact dt172_39 hd hk6 hl  h
    · rw [if_neg hc2] at h
      refine Q.map (A.zF (gI_of zm172 (e := (48, 3, .ifCond .le 21, [39])) rfl) (fun q => hc2 (of_decide_eq_true q))) ?_
      refine Q.run zm172 2 (i' := 33) (ls' := [some (.ref 121), some (.int x1), some (.int y0), some (.int x3), some (.int x4), some (.int x5)]) (st' := [.int 32, .int x5]) rfl ?_
      by_cases hc3 : x5 < 32
      · rw [if_pos hc3] at h
        refine Q.map (A.bT (gI_of zm172 (e := (55, 3, .if_icmp .lt 10, [37])) rfl) (decide_eq_true hc3)) ?_
        exact dt172_37 hd hk6 hl  h
      · rw [if_neg hc3] at h
        refine Q.map (A.bF (gI_of zm172 (e := (55, 3, .if_icmp .lt 10, [37])) rfl) (fun q => hc3 (of_decide_eq_true q))) ?_
        refine Q.run zm172 2 (i' := 36) (ls' := [some (.ref 121), some (.int x1), some (.int y0), some (.int x3), some (.int x4), some (.int x5)]) (st' := [.int 126, .int x5]) rfl ?_
        by_cases hc4 : x5 ≤ 126
        · rw [if_pos hc4] at h
          refine Q.map (A.bT (gI_of zm172 (e := (62, 3, .if_icmp .le 7, [39])) rfl) (decide_eq_true hc4)) ?_
          exact dt172_39 hd hk6 hl  h
        · rw [if_neg hc4] at h
          refine Q.map (A.bF (gI_of zm172 (e := (62, 3, .if_icmp .le 7, [39])) rfl) (fun q => hc4 (of_decide_eq_true q))) ?_
          exact dt172_37 hd hk6 hl  h
  · rw [if_neg hc1] at h
    refine Q.map (A.zT (gI_of zm172 (e := (43, 3, .ifCond .ne 22, [37])) rfl) (decide_eq_true hc1)) ?_
    exact dt172_37 hd hk6 hl  h
def dm172_6 : Nat → Int32 → Int32 → Int32 → Int32 → aS → Option (Int32 × aS)
  | 0, _, _, _, _, _ => none
  | n + 1, x1, x2, x3, x4, s =>
    if 4 ≤ x4 then
      if x3 = 0 then
        if ((sI s 121 1) + x2) ≤ 256 then
          dm172_57 x1 0 s
        else
          dm172_57 x1 2 s
      else
        dm172_57 x1 1 s
    else
      if ((x1 >>> ((24 - (8 * x4)) &&& 31)) &&& 255) ≤ 0 then
        dm172_26 (dm172_6 n) x1 x3 x4 ((x1 >>> ((24 - (8 * x4)) &&& 31)) &&& 255) x2 s
      else
        dm172_26 (dm172_6 n) x1 x3 x4 ((x1 >>> ((24 - (8 * x4)) &&& 31)) &&& 255) (x2 + 1) s
set_option maxRecDepth 100000 in
theorem dt172_6 {sio : Bool} {tt : Nat} {cc : Nat → Nat → Int32} {d : Nat} (hd : 0 ≤ d) : ∀ (n : Nat) {x1 : Int32} {x2 : Int32} {x3 : Int32} {x4 : Int32} {g5 : Option Value} {s : aS} (_ : Ly tt cc s) {o : Int32 × aS} (_ : dm172_6  n x1 x2 x3 x4 s = some o), Q 2 sio tt cc d 172 6 [some (.ref 121), some (.int x1), some (.int x2), some (.int x3), some (.int x4), g5] [] s (.inl (some (.int o.1)), o.2) := by
  intro n
  induction n with
  | zero => intro x1 x2 x3 x4 g5 s hl o h; rw [dm172_6] at h; cases h
  | succ n ih =>
    intro x1 x2 x3 x4 g5 s hl o h
    rw [dm172_6] at h
    refine Q.run zm172 2 (i' := 8) (ls' := [some (.ref 121), some (.int x1), some (.int x2), some (.int x3), some (.int x4), g5]) (st' := [.int 4, .int x4]) rfl ?_
    by_cases hc1 : 4 ≤ x4
    · rw [if_pos hc1] at h
      refine Q.map (A.bT (gI_of zm172 (e := (10, 3, .if_icmp .ge 67, [43])) rfl) (decide_eq_true hc1)) ?_
      refine Q.run zm172 2 (i' := 45) (ls' := [some (.ref 121), some (.int x1), some (.int x2), some (.int x3), some (.int x4), g5]) (st' := [.int x3, .ref 121]) rfl ?_
      by_cases hc2 : x3 = 0
      · rw [if_pos hc2] at h
        refine Q.map (A.zT (gI_of zm172 (e := (79, 3, .ifCond .eq 7, [48])) rfl) (decide_eq_true hc2)) ?_
        refine Q.run zm172 1 (i' := 49) (ls' := [some (.ref 121), some (.int x1), some (.int x2), some (.int x3), some (.int x4), g5]) (st' := [.ref 121, .ref 121]) rfl ?_
        refine Q.map (A.gf (gI_of zm172 (e := (87, 3, .getfield 103, [9, 1])) rfl) (hl.lt (a := 121) (by decide)) (hl.T (a := 121) (p := (9, 45)) 43 rfl rfl) (by decide) rfl) ?_
        refine Q.run zm172 3 (i' := 53) (ls' := [some (.ref 121), some (.int x1), some (.int x2), some (.int x3), some (.int x4), g5]) (st' := [.int 256, .int ((sI s 121 1) + x2), .ref 121]) rfl ?_
        by_cases hc3 : ((sI s 121 1) + x2) ≤ 256
        · rw [if_pos hc3] at h
          refine Q.map (A.bT (gI_of zm172 (e := (95, 3, .if_icmp .le 7, [56])) rfl) (decide_eq_true hc3)) ?_
          refine Q.run zm172 1 (i' := 57) (ls' := [some (.ref 121), some (.int x1), some (.int x2), some (.int x3), some (.int x4), g5]) (st' := [.int 0, .ref 121]) rfl ?_
          exact dt172_57 hd hl  h
        · rw [if_neg hc3] at h
          refine Q.map (A.bF (gI_of zm172 (e := (95, 3, .if_icmp .le 7, [56])) rfl) (fun q => hc3 (of_decide_eq_true q))) ?_
          refine Q.run zm172 2 (i' := 57) (ls' := [some (.ref 121), some (.int x1), some (.int x2), some (.int x3), some (.int x4), g5]) (st' := [.int 2, .ref 121]) rfl ?_
          exact dt172_57 hd hl  h
      · rw [if_neg hc2] at h
        refine Q.map (A.zF (gI_of zm172 (e := (79, 3, .ifCond .eq 7, [48])) rfl) (fun q => hc2 (of_decide_eq_true q))) ?_
        refine Q.run zm172 2 (i' := 57) (ls' := [some (.ref 121), some (.int x1), some (.int x2), some (.int x3), some (.int x4), g5]) (st' := [.int 1, .ref 121]) rfl ?_
        exact dt172_57 hd hl  h
    · rw [if_neg hc1] at h
      refine Q.map (A.bF (gI_of zm172 (e := (10, 3, .if_icmp .ge 67, [43])) rfl) (fun q => hc1 (of_decide_eq_true q))) ?_
      refine Q.run zm172 11 (i' := 20) (ls' := [some (.ref 121), some (.int x1), some (.int x2), some (.int x3), some (.int x4), some (.int ((x1 >>> ((24 - (8 * x4)) &&& 31)) &&& 255))]) (st' := [.int ((x1 >>> ((24 - (8 * x4)) &&& 31)) &&& 255)]) rfl ?_
      by_cases hc4 : ((x1 >>> ((24 - (8 * x4)) &&& 31)) &&& 255) ≤ 0
      · rw [if_pos hc4] at h
        refine Q.map (A.zT (gI_of zm172 (e := (31, 3, .ifCond .le 9, [25])) rfl) (decide_eq_true hc4)) ?_
        refine Q.run zm172 1 (i' := 26) (ls' := [some (.ref 121), some (.int x1), some (.int x2), some (.int x3), some (.int x4), some (.int ((x1 >>> ((24 - (8 * x4)) &&& 31)) &&& 255))]) (st' := [.int x2]) rfl ?_
        exact dt172_26 hd ih hl  h
      · rw [if_neg hc4] at h
        refine Q.map (A.zF (gI_of zm172 (e := (31, 3, .ifCond .le 9, [25])) rfl) (fun q => hc4 (of_decide_eq_true q))) ?_
        refine Q.run zm172 4 (i' := 26) (ls' := [some (.ref 121), some (.int x1), some (.int x2), some (.int x3), some (.int x4), some (.int ((x1 >>> ((24 - (8 * x4)) &&& 31)) &&& 255))]) (st' := [.int (x2 + 1)]) rfl ?_
        exact dt172_26 hd ih hl  h
def dm172 (x1 : Int32) (s : aS) : Option (Int32 × aS) :=
  dm172_6 5000 x1 0 0 0 s
set_option maxRecDepth 100000 in
theorem dt172 {sio : Bool} {tt : Nat} {cc : Nat → Nat → Int32} {d : Nat} (hd : 0 ≤ d) {x1 : Int32} {s : aS} (hl : Ly tt cc s) {o : Int32 × aS} (h : dm172  x1 s = some o) : Q 2 sio tt cc d 172 0 [some (.ref 121), some (.int x1), none, none, none, none] [] s (.inl (some (.int o.1)), o.2) := by
  unfold dm172 at h
  refine Q.run zm172 6 (i' := 6) (ls' := [some (.ref 121), some (.int x1), some (.int 0), some (.int 0), some (.int 0), none]) (st' := []) rfl ?_
  exact dt172_6 hd _ hl  h
/-! 26 FormulaTrees$Letters.clear()V -/
set_option maxRecDepth 100000 in
theorem zm26 : zP[26]? = some zM26 := rfl
def dm26 (b0 : Nat) (s : aS) : Option (aS) :=
  nx (wI s b0 1 0) fun s1 =>
  some s1
set_option maxRecDepth 100000 in
theorem dt26 {sio : Bool} {tt : Nat} {cc : Nat → Nat → Int32} {d : Nat} (hd : 0 ≤ d) {b0 : Nat} {s : aS} (hl : Ly tt cc s) (hk_b0 : aK s b0 1) {o : aS} (h : dm26  b0 s = some o) : Q 1 sio tt cc d 26 0 [some (.ref b0)] [] s (.inl none, o) := by
  unfold dm26 at h
  refine Q.run zm26 2 (i' := 2) (ls' := [some (.ref b0)]) (st' := [.int 0, .ref b0]) rfl ?_
  obtain ⟨s1, hs2, h⟩ := nx_so h
  refine Q.pf hs2 (hl.g1 hk_b0) (gI_of zm26 (e := (2, 3, .putfield 15, [1, 1, 0])) rfl) hk_b0.1 (hl.le hk_b0).2.2.2.2 (hl.le hk_b0).1 (by decide) rfl rfl ?_
  have hl3 : Ly tt cc s1 := by rw [hs2]; exact hl.wId (hl.le hk_b0).2.2.2.2
  have hr4 : aK s1 b0 1 := by rw [hs2]; exact hk_b0
  cases h
  exact Q.ret (A.rv zm26 (show zM26.2.2.2.2.2[3]? = some (5, 1, .return_, []) from rfl) rfl) hl3
/-! 25 FormulaTrees.erase()V -/
set_option maxRecDepth 100000 in
theorem zm25 : zP[25]? = some zM25 := rfl
def dm25 (s : aS) : Option (aS) :=
  bu (dm26 79 s) fun s3 =>
  some s3
set_option maxRecDepth 100000 in
theorem dt25 {sio : Bool} {tt : Nat} {cc : Nat → Nat → Int32} {d : Nat} (hd : 1 ≤ d) {s : aS} (hl : Ly tt cc s) {o : aS} (h : dm25  s = some o) : Q 1 sio tt cc d 25 0 [some (.ref 78)] [] s (.inl none, o) := by
  unfold dm25 at h
  obtain ⟨d, rfl⟩ : ∃ e, d = e + 1 := ⟨d - 1, by omega⟩
  refine Q.run zm25 1 (i' := 1) (ls' := [some (.ref 78)]) (st' := [.ref 78]) rfl ?_
  refine Q.map (A.gf (gI_of zm25 (e := (1, 3, .getfield 14, [0, 0])) rfl) (hl.lt (a := 78) (by decide)) (hl.T (a := 78) (p := (0, 7)) 0 rfl rfl) (by decide) (hl.R 0 rfl)) ?_
  obtain ⟨s3, hc2, h⟩ := bu_so h
  have hq1 : Q 1 sio tt cc d 26 0 [some (.ref 79)] [] s (.inl none, s3) := dt26 (by omega) hl (hl.Kd (a := 79) (c := 1) (n := 2) 1 rfl rfl (by decide)) hc2
  refine Q.callV (gC_vi zm25 (show zM25.2.2.2.2.2[2]? = some (4, 3, .invokevirtual 77, [0, 26, 0, 1]) from rfl) zm26 (hl.lt (a := 79) (by decide)) (hl.T (a := 79) (p := (1, 2)) 1 rfl rfl) rfl (show aCr 0 79 [.ref 79] 1 = some ([some (.ref 79)], []) from rfl)) hq1 ?_
  cases h
  exact Q.ret (A.rv zm25 (show zM25.2.2.2.2.2[3]? = some (7, 1, .return_, []) from rfl) rfl) hq1.1
/-! 173 FormulaTreesModel.erase()V -/
set_option maxRecDepth 100000 in
theorem zm173 : zP[173]? = some zM173 := rfl
def dm173 (s : aS) : Option (aS) :=
  nx (wI s 121 0 0) fun s1 =>
  nx (wI s1 121 1 0) fun s4 =>
  some s4
set_option maxRecDepth 100000 in
theorem dt173 {sio : Bool} {tt : Nat} {cc : Nat → Nat → Int32} {d : Nat} (hd : 0 ≤ d) {s : aS} (hl : Ly tt cc s) {o : aS} (h : dm173  s = some o) : Q 2 sio tt cc d 173 0 [some (.ref 121)] [] s (.inl none, o) := by
  unfold dm173 at h
  refine Q.run zm173 2 (i' := 2) (ls' := [some (.ref 121)]) (st' := [.int 0, .ref 121]) rfl ?_
  obtain ⟨s1, hs2, h⟩ := nx_so h
  refine Q.pf hs2 rfl (gI_of zm173 (e := (2, 3, .putfield 89, [9, 0, 0])) rfl) (hl.lt (a := 121) (by decide)) (by decide) (hl.T (a := 121) (p := (9, 45)) 43 rfl rfl) (by decide) rfl rfl ?_
  have hl3 : Ly tt cc s1 := by rw [hs2]; exact hl.wId (by decide)
  refine Q.run zm173 2 (i' := 5) (ls' := [some (.ref 121)]) (st' := [.int 0, .ref 121]) rfl ?_
  obtain ⟨s4, hs5, h⟩ := nx_so h
  refine Q.pf hs5 rfl (gI_of zm173 (e := (7, 3, .putfield 103, [9, 1, 0])) rfl) (hl3.lt (a := 121) (by decide)) (by decide) (hl3.T (a := 121) (p := (9, 45)) 43 rfl rfl) (by decide) rfl rfl ?_
  have hl6 : Ly tt cc s4 := by rw [hs5]; exact hl3.wId (by decide)
  cases h
  exact Q.ret (A.rv zm173 (show zM173.2.2.2.2.2[6]? = some (10, 1, .return_, []) from rfl) rfl) hl6
/-! 34 FormulaTrees$Letters.at(I)I -/
set_option maxRecDepth 100000 in
theorem zm34 : zP[34]? = some zM34 := rfl
def dm34 (b0 : Nat) (x1 : Int32) (s : aS) : Option (Int32) :=
  if x1 < 0 then
    some (-1)
  else
    if (sI s b0 1) ≤ x1 then
      some (-1)
    else
      if aB x1 (sT s (b0 + 1)).2 then
        some (sI s (b0 + 1) (jN x1))
      else none
set_option maxRecDepth 100000 in
theorem dt34 {sio : Bool} {tt : Nat} {cc : Nat → Nat → Int32} {d : Nat} (hd : 0 ≤ d) {b0 : Nat} {x1 : Int32} {s : aS} (hl : Ly tt cc s) (hk_b0 : aK s b0 1) {o : Int32} (h : dm34  b0 x1 s = some o) : Q 1 sio tt cc d 34 0 [some (.ref b0), some (.int x1)] [] s (.inl (some (.int o)), s) := by
  unfold dm34 at h
  refine Q.run zm34 1 (i' := 1) (ls' := [some (.ref b0), some (.int x1)]) (st' := [.int x1]) rfl ?_
  by_cases hc1 : x1 < 0
  · rw [if_pos hc1] at h
    refine Q.map (A.zT (gI_of zm34 (e := (1, 3, .ifCond .lt 20, [11])) rfl) (decide_eq_true hc1)) ?_
    refine Q.run zm34 1 (i' := 12) (ls' := [some (.ref b0), some (.int x1)]) (st' := [.int (-1)]) rfl ?_
    cases h
    exact Q.ret (A.ri zm34 (show zM34.2.2.2.2.2[12]? = some (22, 1, .ireturn, []) from rfl) rfl rfl) hl
  · rw [if_neg hc1] at h
    refine Q.map (A.zF (gI_of zm34 (e := (1, 3, .ifCond .lt 20, [11])) rfl) (fun q => hc1 (of_decide_eq_true q))) ?_
    refine Q.run zm34 2 (i' := 4) (ls' := [some (.ref b0), some (.int x1)]) (st' := [.ref b0, .int x1]) rfl ?_
    refine Q.map (A.gf (gI_of zm34 (e := (6, 3, .getfield 15, [1, 1])) rfl) hk_b0.1 (hl.le hk_b0).1 (by decide) rfl) ?_
    by_cases hc2 : (sI s b0 1) ≤ x1
    · rw [if_pos hc2] at h
      refine Q.map (A.bT (gI_of zm34 (e := (9, 3, .if_icmp .ge 12, [11])) rfl) (decide_eq_true hc2)) ?_
      refine Q.run zm34 1 (i' := 12) (ls' := [some (.ref b0), some (.int x1)]) (st' := [.int (-1)]) rfl ?_
      cases h
      exact Q.ret (A.ri zm34 (show zM34.2.2.2.2.2[12]? = some (22, 1, .ireturn, []) from rfl) rfl rfl) hl
    · rw [if_neg hc2] at h
      refine Q.map (A.bF (gI_of zm34 (e := (9, 3, .if_icmp .ge 12, [11])) rfl) (fun q => hc2 (of_decide_eq_true q))) ?_
      refine Q.run zm34 1 (i' := 7) (ls' := [some (.ref b0), some (.int x1)]) (st' := [.ref b0]) rfl ?_
      refine Q.map (A.gf (gI_of zm34 (e := (13, 3, .getfield 9, [1, 0])) rfl) hk_b0.1 (hl.le hk_b0).1 (by decide) (hl.le hk_b0).2.1) ?_
      refine Q.run zm34 1 (i' := 9) (ls' := [some (.ref b0), some (.int x1)]) (st' := [.int x1, .ref (b0 + 1)]) rfl ?_
      obtain ⟨hc3, h⟩ := ite_so h
      refine Q.map (A.ca (gI_of zm34 (e := (17, 1, .caload, [])) rfl) (hl.le hk_b0).2.2.1 (pr2 (hl.le hk_b0).2.2.2.1) hc3) ?_
      refine Q.run zm34 1 (i' := 12) (ls' := [some (.ref b0), some (.int x1)]) (st' := [.int (sI s (b0 + 1) (jN x1))]) rfl ?_
      cases h
      exact Q.ret (A.ri zm34 (show zM34.2.2.2.2.2[12]? = some (22, 1, .ireturn, []) from rfl) rfl rfl) hl
/-! 35 FormulaTrees$Signs.great(I)I -/
set_option maxRecDepth 100000 in
theorem zm35 : zP[35]? = some zM35 := rfl
def dm35 (x0 : Int32) : Option (Int32) :=
  if x0 < 97 then
    some x0
  else
    if 122 < x0 then
      some x0
    else
      some ((x0 - 97) + 65)
set_option maxRecDepth 100000 in
theorem dt35 {sio : Bool} {tt : Nat} {cc : Nat → Nat → Int32} {d : Nat} (hd : 0 ≤ d) {x0 : Int32} {s : aS} (hl : Ly tt cc s) {o : Int32} (h : dm35  x0 = some o) : Q 1 sio tt cc d 35 0 [some (.int x0)] [] s (.inl (some (.int o)), s) := by
  unfold dm35 at h
  refine Q.run zm35 2 (i' := 2) (ls' := [some (.int x0)]) (st' := [.int 97, .int x0]) rfl ?_
  by_cases hc1 : x0 < 97
  · rw [if_pos hc1] at h
    refine Q.map (A.bT (gI_of zm35 (e := (3, 3, .if_icmp .lt 19, [12])) rfl) (decide_eq_true hc1)) ?_
    refine Q.run zm35 1 (i' := 13) (ls' := [some (.int x0)]) (st' := [.int x0]) rfl ?_
    cases h
    exact Q.ret (A.ri zm35 (show zM35.2.2.2.2.2[13]? = some (23, 1, .ireturn, []) from rfl) rfl rfl) hl
  · rw [if_neg hc1] at h
    refine Q.map (A.bF (gI_of zm35 (e := (3, 3, .if_icmp .lt 19, [12])) rfl) (fun q => hc1 (of_decide_eq_true q))) ?_
    refine Q.run zm35 2 (i' := 5) (ls' := [some (.int x0)]) (st' := [.int 122, .int x0]) rfl ?_
    by_cases hc2 : 122 < x0
    · rw [if_pos hc2] at h
      refine Q.map (A.bT (gI_of zm35 (e := (9, 3, .if_icmp .gt 13, [12])) rfl) (decide_eq_true hc2)) ?_
      refine Q.run zm35 1 (i' := 13) (ls' := [some (.int x0)]) (st' := [.int x0]) rfl ?_
      cases h
      exact Q.ret (A.ri zm35 (show zM35.2.2.2.2.2[13]? = some (23, 1, .ireturn, []) from rfl) rfl rfl) hl
    · rw [if_neg hc2] at h
      refine Q.map (A.bF (gI_of zm35 (e := (9, 3, .if_icmp .gt 13, [12])) rfl) (fun q => hc2 (of_decide_eq_true q))) ?_
      refine Q.run zm35 6 (i' := 13) (ls' := [some (.int x0)]) (st' := [.int ((x0 - 97) + 65)]) rfl ?_
      cases h
      exact Q.ret (A.ri zm35 (show zM35.2.2.2.2.2[13]? = some (23, 1, .ireturn, []) from rfl) rfl rfl) hl
/-! 33 FormulaTrees$Letters.isLike(LFormulaTrees$Letters;)Z -/
set_option maxRecDepth 100000 in
theorem zm33 : zP[33]? = some zM33 := rfl
def dm33_29 (k11 : Nat → Nat → Int32 → Int32 → aS → Option (Int32)) (b0 : Nat) (b1 : Nat) (x3 : Int32) (y0 : Int32) (s : aS) : Option (Int32) :=
  k11 b0 b1 y0 (x3 + 1) s
set_option maxRecDepth 100000 in
theorem dt33_29 {sio : Bool} {tt : Nat} {cc : Nat → Nat → Int32} {d : Nat} (hd : 1 ≤ d) {k11 : Nat → Nat → Int32 → Int32 → aS → Option (Int32)} (hk11 : ∀ {b0 : Nat} {b1 : Nat} {x2 : Int32} {x3 : Int32} {s : aS}, Ly tt cc s → aK s b0 1 → aK s b1 1 → ∀ {o : Int32}, k11 b0 b1 x2 x3 s = some o → Q 1 sio tt cc d 33 11 [some (.ref b0), some (.ref b1), some (.int x2), some (.int x3)] [] s (.inl (some (.int o)), s)) {b0 : Nat} {b1 : Nat} {x3 : Int32} {y0 : Int32} {x2 : Int32} {s : aS} (hl : Ly tt cc s) (hk_b0 : aK s b0 1) (hk_b1 : aK s b1 1) {o : Int32} (h : dm33_29 k11 b0 b1 x3 y0 s = some o) : Q 1 sio tt cc d 33 29 [some (.ref b0), some (.ref b1), some (.int x2), some (.int x3)] [.int y0] s (.inl (some (.int o)), s) := by
  unfold dm33_29 at h
  obtain ⟨d, rfl⟩ : ∃ e, d = e + 1 := ⟨d - 1, by omega⟩
  refine Q.run zm33 3 (i' := 11) (ls' := [some (.ref b0), some (.ref b1), some (.int y0), some (.int (x3 + 1))]) (st' := []) rfl ?_
  exact hk11 hl hk_b0 hk_b1 h
def dm33_11 : Nat → Nat → Nat → Int32 → Int32 → aS → Option (Int32)
  | 0, _, _, _, _, _ => none
  | n + 1, b0, b1, x2, x3, s =>
    if (sI s b0 1) ≤ x3 then
      if x2 = 0 ∨ x2 = 1 then
        some x2
      else none
    else
      if x2 = 0 then
        if x2 = 0 ∨ x2 = 1 then
          some x2
        else none
      else
        bu (dm34 b0 x3 s) fun r7 =>
        bu (dm35 r7) fun r10 =>
        bu (dm34 b1 x3 s) fun r13 =>
        bu (dm35 r13) fun r16 =>
        if r10 = r16 then
          dm33_29 (dm33_11 n) b0 b1 x3 1 s
        else
          dm33_29 (dm33_11 n) b0 b1 x3 0 s
set_option maxRecDepth 100000 in
theorem dt33_11 {sio : Bool} {tt : Nat} {cc : Nat → Nat → Int32} {d : Nat} (hd : 1 ≤ d) : ∀ (n : Nat) {b0 : Nat} {b1 : Nat} {x2 : Int32} {x3 : Int32} {s : aS} (_ : Ly tt cc s) (_ : aK s b0 1) (_ : aK s b1 1) {o : Int32} (_ : dm33_11  n b0 b1 x2 x3 s = some o), Q 1 sio tt cc d 33 11 [some (.ref b0), some (.ref b1), some (.int x2), some (.int x3)] [] s (.inl (some (.int o)), s) := by
  obtain ⟨d, rfl⟩ : ∃ e, d = e + 1 := ⟨d - 1, by omega⟩
  intro n
  induction n with
  | zero => intro b0 b1 x2 x3 s hl hk_b0 hk_b1 o h; rw [dm33_11] at h; cases h
  | succ n ih =>
    intro b0 b1 x2 x3 s hl hk_b0 hk_b1 o h
    rw [dm33_11] at h
    refine Q.run zm33 2 (i' := 13) (ls' := [some (.ref b0), some (.ref b1), some (.int x2), some (.int x3)]) (st' := [.ref b0, .int x3]) rfl ?_
    refine Q.map (A.gf (gI_of zm33 (e := (21, 3, .getfield 15, [1, 1])) rfl) hk_b0.1 (hl.le hk_b0).1 (by decide) rfl) ?_
    by_cases hc1 : (sI s b0 1) ≤ x3
    · rw [if_pos hc1] at h
      refine Q.map (A.bT (gI_of zm33 (e := (24, 3, .if_icmp .ge 38, [32])) rfl) (decide_eq_true hc1)) ?_
      refine Q.run zm33 1 (i' := 33) (ls' := [some (.ref b0), some (.ref b1), some (.int x2), some (.int x3)]) (st' := [.int x2]) rfl ?_
      obtain ⟨hc2, h⟩ := ite_so h
      cases h
      exact Q.ret (A.ri zm33 (show zM33.2.2.2.2.2[33]? = some (63, 1, .ireturn, []) from rfl) rfl (fit1 hc2)) hl
    · rw [if_neg hc1] at h
      refine Q.map (A.bF (gI_of zm33 (e := (24, 3, .if_icmp .ge 38, [32])) rfl) (fun q => hc1 (of_decide_eq_true q))) ?_
      refine Q.run zm33 1 (i' := 16) (ls' := [some (.ref b0), some (.ref b1), some (.int x2), some (.int x3)]) (st' := [.int x2]) rfl ?_
      by_cases hc3 : x2 = 0
      · rw [if_pos hc3] at h
        refine Q.map (A.zT (gI_of zm33 (e := (28, 3, .ifCond .eq 34, [32])) rfl) (decide_eq_true hc3)) ?_
        refine Q.run zm33 1 (i' := 33) (ls' := [some (.ref b0), some (.ref b1), some (.int x2), some (.int x3)]) (st' := [.int x2]) rfl ?_
        obtain ⟨hc4, h⟩ := ite_so h
        cases h
        exact Q.ret (A.ri zm33 (show zM33.2.2.2.2.2[33]? = some (63, 1, .ireturn, []) from rfl) rfl (fit1 hc4)) hl
      · rw [if_neg hc3] at h
        refine Q.map (A.zF (gI_of zm33 (e := (28, 3, .ifCond .eq 34, [32])) rfl) (fun q => hc3 (of_decide_eq_true q))) ?_
        refine Q.run zm33 2 (i' := 19) (ls' := [some (.ref b0), some (.ref b1), some (.int x2), some (.int x3)]) (st' := [.int x3, .ref b0]) rfl ?_
        obtain ⟨r7, hc6, h⟩ := bu_so h
        have hq5 : Q 1 sio tt cc d 34 0 [some (.ref b0), some (.int x3)] [] s (.inl (some (.int r7)), s) := dt34 (by omega) hl hk_b0 hc6
        refine Q.callI (gC_vi zm33 (show zM33.2.2.2.2.2[19]? = some (33, 3, .invokevirtual 25, [0, 34, 1, 1]) from rfl) zm34 hk_b0.1 (hl.le hk_b0).1 rfl (show aCr 1 b0 [.int x3, .ref b0] 2 = some ([some (.ref b0), some (.int x3)], []) from rfl)) hq5 ?_
        obtain ⟨r10, hc9, h⟩ := bu_so h
        have hq8 : Q 1 sio tt cc d 35 0 [some (.int r7)] [] s (.inl (some (.int r10)), s) := dt35 (by omega) hl  hc9
        refine Q.callI (gC_st zm33 (show zM33.2.2.2.2.2[20]? = some (36, 3, .invokestatic 33, [0, 35, 1]) from rfl) zm35 (show aC 1 [.int r7] 1 = some ([some (.int r7)], []) from rfl)) hq8 ?_
        refine Q.run zm33 2 (i' := 23) (ls' := [some (.ref b0), some (.ref b1), some (.int x2), some (.int x3)]) (st' := [.int x3, .ref b1, .int r10]) rfl ?_
        obtain ⟨r13, hc12, h⟩ := bu_so h
        have hq11 : Q 1 sio tt cc d 34 0 [some (.ref b1), some (.int x3)] [] s (.inl (some (.int r13)), s) := dt34 (by omega) hl hk_b1 hc12
        refine Q.callI (gC_vi zm33 (show zM33.2.2.2.2.2[23]? = some (41, 3, .invokevirtual 25, [0, 34, 1, 1]) from rfl) zm34 hk_b1.1 (hl.le hk_b1).1 rfl (show aCr 1 b1 [.int x3, .ref b1, .int r10] 2 = some ([some (.ref b1), some (.int x3)], [.int r10]) from rfl)) hq11 ?_
        obtain ⟨r16, hc15, h⟩ := bu_so h
        have hq14 : Q 1 sio tt cc d 35 0 [some (.int r13)] [] s (.inl (some (.int r16)), s) := dt35 (by omega) hl  hc15
        refine Q.callI (gC_st zm33 (show zM33.2.2.2.2.2[24]? = some (44, 3, .invokestatic 33, [0, 35, 1]) from rfl) zm35 (show aC 1 [.int r13, .int r10] 1 = some ([some (.int r13)], [.int r10]) from rfl)) hq14 ?_
        by_cases hc17 : r10 = r16
        · rw [if_pos hc17] at h
          refine Q.map (A.bF (gI_of zm33 (e := (47, 3, .if_icmp .ne 7, [28])) rfl) (fun q => of_decide_eq_true q hc17)) ?_
          refine Q.run zm33 2 (i' := 29) (ls' := [some (.ref b0), some (.ref b1), some (.int x2), some (.int x3)]) (st' := [.int 1]) rfl ?_
          exact dt33_29 hd ih hl hk_b0 hk_b1 h
        · rw [if_neg hc17] at h
          refine Q.map (A.bT (gI_of zm33 (e := (47, 3, .if_icmp .ne 7, [28])) rfl) (decide_eq_true hc17)) ?_
          refine Q.run zm33 1 (i' := 29) (ls' := [some (.ref b0), some (.ref b1), some (.int x2), some (.int x3)]) (st' := [.int 0]) rfl ?_
          exact dt33_29 hd ih hl hk_b0 hk_b1 h
def dm33_8 (b0 : Nat) (b1 : Nat) (y0 : Int32) (s : aS) : Option (Int32) :=
  dm33_11 5000 b0 b1 y0 0 s
set_option maxRecDepth 100000 in
theorem dt33_8 {sio : Bool} {tt : Nat} {cc : Nat → Nat → Int32} {d : Nat} (hd : 1 ≤ d) {b0 : Nat} {b1 : Nat} {y0 : Int32} {s : aS} (hl : Ly tt cc s) (hk_b0 : aK s b0 1) (hk_b1 : aK s b1 1) {o : Int32} (h : dm33_8  b0 b1 y0 s = some o) : Q 1 sio tt cc d 33 8 [some (.ref b0), some (.ref b1), none, none] [.int y0] s (.inl (some (.int o)), s) := by
  unfold dm33_8 at h
  obtain ⟨d, rfl⟩ : ∃ e, d = e + 1 := ⟨d - 1, by omega⟩
  refine Q.run zm33 3 (i' := 11) (ls' := [some (.ref b0), some (.ref b1), some (.int y0), some (.int 0)]) (st' := []) rfl ?_
  exact dt33_11 hd _ hl hk_b0 hk_b1 h
def dm33 (b0 : Nat) (b1 : Nat) (s : aS) : Option (Int32) :=
  bu (dm28 b1 s) fun r3 =>
  if (sI s b0 1) = r3 then
    dm33_8 b0 b1 1 s
  else
    dm33_8 b0 b1 0 s
set_option maxRecDepth 100000 in
theorem dt33 {sio : Bool} {tt : Nat} {cc : Nat → Nat → Int32} {d : Nat} (hd : 1 ≤ d) {b0 : Nat} {b1 : Nat} {s : aS} (hl : Ly tt cc s) (hk_b0 : aK s b0 1) (hk_b1 : aK s b1 1) {o : Int32} (h : dm33  b0 b1 s = some o) : Q 1 sio tt cc d 33 0 [some (.ref b0), some (.ref b1), none, none] [] s (.inl (some (.int o)), s) := by
  unfold dm33 at h
  obtain ⟨d, rfl⟩ : ∃ e, d = e + 1 := ⟨d - 1, by omega⟩
  refine Q.run zm33 1 (i' := 1) (ls' := [some (.ref b0), some (.ref b1), none, none]) (st' := [.ref b0]) rfl ?_
  refine Q.map (A.gf (gI_of zm33 (e := (1, 3, .getfield 15, [1, 1])) rfl) hk_b0.1 (hl.le hk_b0).1 (by decide) rfl) ?_
  refine Q.run zm33 1 (i' := 3) (ls' := [some (.ref b0), some (.ref b1), none, none]) (st' := [.ref b1, .int (sI s b0 1)]) rfl ?_
  obtain ⟨r3, hc2, h⟩ := bu_so h
  have hq1 : Q 1 sio tt cc d 28 0 [some (.ref b1)] [] s (.inl (some (.int r3)), s) := dt28 (by omega) hl hk_b1 hc2
  refine Q.callI (gC_vi zm33 (show zM33.2.2.2.2.2[3]? = some (5, 3, .invokevirtual 22, [0, 28, 0, 1]) from rfl) zm28 hk_b1.1 (hl.le hk_b1).1 rfl (show aCr 0 b1 [.ref b1, .int (sI s b0 1)] 1 = some ([some (.ref b1)], [.int (sI s b0 1)]) from rfl)) hq1 ?_
  by_cases hc4 : (sI s b0 1) = r3
  · rw [if_pos hc4] at h
    refine Q.map (A.bF (gI_of zm33 (e := (8, 3, .if_icmp .ne 7, [7])) rfl) (fun q => of_decide_eq_true q hc4)) ?_
    refine Q.run zm33 2 (i' := 8) (ls' := [some (.ref b0), some (.ref b1), none, none]) (st' := [.int 1]) rfl ?_
    exact dt33_8 hd hl hk_b0 hk_b1 h
  · rw [if_neg hc4] at h
    refine Q.map (A.bT (gI_of zm33 (e := (8, 3, .if_icmp .ne 7, [7])) rfl) (decide_eq_true hc4)) ?_
    refine Q.run zm33 1 (i' := 8) (ls' := [some (.ref b0), some (.ref b1), none, none]) (st' := [.int 0]) rfl ?_
    exact dt33_8 hd hl hk_b0 hk_b1 h
/-! 32 FormulaTrees$Sheets.withName(LFormulaTrees$Letters;)I -/
set_option maxRecDepth 100000 in
theorem zm32 : zP[32]? = some zM32 := rfl
def dm32_2 : Nat → Nat → Int32 → aS → Option (Int32)
  | 0, _, _, _ => none
  | n + 1, b1, x2, s =>
    if (sI s 81 2) ≤ x2 then
      some (-1)
    else
      if aB x2 8 then
        bu (dm33 (84 + 2 * jN x2) b1 s) fun r7 =>
        if r7 = 0 then
          dm32_2 n b1 (x2 + 1) s
        else
          some x2
      else none
set_option maxRecDepth 100000 in
theorem dt32_2 {sio : Bool} {tt : Nat} {cc : Nat → Nat → Int32} {d : Nat} (hd : 2 ≤ d) : ∀ (n : Nat) {b1 : Nat} {x2 : Int32} {s : aS} (_ : Ly tt cc s) (_ : aK s b1 1) {o : Int32} (_ : dm32_2  n b1 x2 s = some o), Q 1 sio tt cc d 32 2 [some (.ref 81), some (.ref b1), some (.int x2)] [] s (.inl (some (.int o)), s) := by
  obtain ⟨d, rfl⟩ : ∃ e, d = e + 1 := ⟨d - 1, by omega⟩
  intro n
  induction n with
  | zero => intro b1 x2 s hl hk_b1 o h; rw [dm32_2] at h; cases h
  | succ n ih =>
    intro b1 x2 s hl hk_b1 o h
    rw [dm32_2] at h
    refine Q.run zm32 2 (i' := 4) (ls' := [some (.ref 81), some (.ref b1), some (.int x2)]) (st' := [.ref 81, .int x2]) rfl ?_
    refine Q.map (A.gf (gI_of zm32 (e := (4, 3, .getfield 24, [2, 2])) rfl) (hl.lt (a := 81) (by decide)) (hl.T (a := 81) (p := (2, 3)) 3 rfl rfl) (by decide) rfl) ?_
    by_cases hc1 : (sI s 81 2) ≤ x2
    · rw [if_pos hc1] at h
      refine Q.map (A.bT (gI_of zm32 (e := (7, 3, .if_icmp .ge 24, [17])) rfl) (decide_eq_true hc1)) ?_
      refine Q.run zm32 1 (i' := 18) (ls' := [some (.ref 81), some (.ref b1), some (.int x2)]) (st' := [.int (-1)]) rfl ?_
      cases h
      exact Q.ret (A.ri zm32 (show zM32.2.2.2.2.2[18]? = some (32, 1, .ireturn, []) from rfl) rfl rfl) hl
    · rw [if_neg hc1] at h
      refine Q.map (A.bF (gI_of zm32 (e := (7, 3, .if_icmp .ge 24, [17])) rfl) (fun q => hc1 (of_decide_eq_true q))) ?_
      refine Q.run zm32 1 (i' := 7) (ls' := [some (.ref 81), some (.ref b1), some (.int x2)]) (st' := [.ref 81]) rfl ?_
      refine Q.map (A.gf (gI_of zm32 (e := (11, 3, .getfield 11, [2, 0])) rfl) (hl.lt (a := 81) (by decide)) (hl.T (a := 81) (p := (2, 3)) 3 rfl rfl) (by decide) (hl.R 6 rfl)) ?_
      refine Q.run zm32 1 (i' := 9) (ls' := [some (.ref 81), some (.ref b1), some (.int x2)]) (st' := [.int x2, .ref 82]) rfl ?_
      obtain ⟨hc2, h⟩ := ite_so h
      have hn3 := lay_names hl hc2.2
      refine Q.map (A.aa (gI_of zm32 (e := (15, 1, .aaload, [])) rfl) (hl.lt (a := 82) (by decide)) (hl.T (a := 82) (p := (111, 8)) 4 rfl rfl) (by decide) hc2 hn3.2) ?_
      have hr4 := hn3.1
      refine Q.run zm32 1 (i' := 11) (ls' := [some (.ref 81), some (.ref b1), some (.int x2)]) (st' := [.ref b1, .ref (84 + 2 * jN x2)]) rfl ?_
      obtain ⟨r7, hc6, h⟩ := bu_so h
      have hq5 : Q 1 sio tt cc d 33 0 [some (.ref (84 + 2 * jN x2)), some (.ref b1), none, none] [] s (.inl (some (.int r7)), s) := dt33 (by omega) hl hr4 hk_b1 hc6
      refine Q.callI (gC_vi zm32 (show zM32.2.2.2.2.2[11]? = some (17, 3, .invokevirtual 36, [0, 33, 1, 1]) from rfl) zm33 hr4.1 (hl.le hr4).1 rfl (show aCr 1 (84 + 2 * jN x2) [.ref b1, .ref (84 + 2 * jN x2)] 4 = some ([some (.ref (84 + 2 * jN x2)), some (.ref b1), none, none], []) from rfl)) hq5 ?_
      by_cases hc8 : r7 = 0
      · rw [if_pos hc8] at h
        refine Q.map (A.zT (gI_of zm32 (e := (20, 3, .ifCond .eq 5, [15])) rfl) (decide_eq_true hc8)) ?_
        refine Q.run zm32 2 (i' := 2) (ls' := [some (.ref 81), some (.ref b1), some (.int (x2 + 1))]) (st' := []) rfl ?_
        exact ih hl hk_b1 h
      · rw [if_neg hc8] at h
        refine Q.map (A.zF (gI_of zm32 (e := (20, 3, .ifCond .eq 5, [15])) rfl) (fun q => hc8 (of_decide_eq_true q))) ?_
        refine Q.run zm32 1 (i' := 14) (ls' := [some (.ref 81), some (.ref b1), some (.int x2)]) (st' := [.int x2]) rfl ?_
        cases h
        exact Q.ret (A.ri zm32 (show zM32.2.2.2.2.2[14]? = some (24, 1, .ireturn, []) from rfl) rfl rfl) hl
def dm32 (b1 : Nat) (s : aS) : Option (Int32) :=
  dm32_2 5000 b1 0 s
set_option maxRecDepth 100000 in
theorem dt32 {sio : Bool} {tt : Nat} {cc : Nat → Nat → Int32} {d : Nat} (hd : 2 ≤ d) {b1 : Nat} {s : aS} (hl : Ly tt cc s) (hk_b1 : aK s b1 1) {o : Int32} (h : dm32  b1 s = some o) : Q 1 sio tt cc d 32 0 [some (.ref 81), some (.ref b1), none] [] s (.inl (some (.int o)), s) := by
  unfold dm32 at h
  obtain ⟨d, rfl⟩ : ∃ e, d = e + 1 := ⟨d - 1, by omega⟩
  refine Q.run zm32 2 (i' := 2) (ls' := [some (.ref 81), some (.ref b1), some (.int 0)]) (st' := []) rfl ?_
  exact dt32_2 hd _ hl hk_b1 h
/-! 253 java/lang/String.isLatin1()Z -/
set_option maxRecDepth 100000 in
theorem zm253 : zP[253]? = some zM253 := rfl
def dm253 (b0 : Nat) (s : aS) : Option (Int32) :=
  if (sI s b0 1) = 0 then
    some 1
  else
    some 0
set_option maxRecDepth 100000 in
theorem dt253 {f : Nat} {sio : Bool} {tt : Nat} {cc : Nat → Nat → Int32} {d : Nat} (hd : 0 ≤ d) {b0 : Nat} {s : aS} (hl : Ly tt cc s) (hk_b0 : aK s b0 70) {o : Int32} (h : dm253  b0 s = some o) : Q f sio tt cc d 253 0 [some (.ref b0)] [] s (.inl (some (.int o)), s) := by
  unfold dm253 at h
  refine Q.run zm253 1 (i' := 1) (ls' := [some (.ref b0)]) (st' := [.int 1]) rfl ?_
  refine Q.map (A.zF (gI_of zm253 (e := (3, 3, .ifCond .eq 14, [7])) rfl) (by decide)) ?_
  refine Q.run zm253 1 (i' := 3) (ls' := [some (.ref b0)]) (st' := [.ref b0]) rfl ?_
  refine Q.map (A.gf (gI_of zm253 (e := (7, 3, .getfield 15, [70, 1])) rfl) hk_b0.1 (hl.tx hk_b0).1 (by decide) rfl) ?_
  by_cases hc1 : (sI s b0 1) = 0
  · rw [if_pos hc1] at h
    refine Q.map (A.zF (gI_of zm253 (e := (10, 3, .ifCond .ne 7, [7])) rfl) (fun q => of_decide_eq_true q hc1)) ?_
    refine Q.run zm253 2 (i' := 8) (ls' := [some (.ref b0)]) (st' := [.int 1]) rfl ?_
    cases h
    exact Q.ret (A.ri zm253 (show zM253.2.2.2.2.2[8]? = some (18, 1, .ireturn, []) from rfl) rfl rfl) hl
  · rw [if_neg hc1] at h
    refine Q.map (A.zT (gI_of zm253 (e := (10, 3, .ifCond .ne 7, [7])) rfl) (decide_eq_true hc1)) ?_
    refine Q.run zm253 1 (i' := 8) (ls' := [some (.ref b0)]) (st' := [.int 0]) rfl ?_
    cases h
    exact Q.ret (A.ri zm253 (show zM253.2.2.2.2.2[8]? = some (18, 1, .ireturn, []) from rfl) rfl rfl) hl
/-! 255 java/lang/String.coder()B -/
set_option maxRecDepth 100000 in
theorem zm255 : zP[255]? = some zM255 := rfl
def dm255 (b0 : Nat) (s : aS) : Option (Int32) :=
  if -128 ≤ (sI s b0 1) ∧ (sI s b0 1) ≤ 127 then
    some (sI s b0 1)
  else none
set_option maxRecDepth 100000 in
theorem dt255 {f : Nat} {sio : Bool} {tt : Nat} {cc : Nat → Nat → Int32} {d : Nat} (hd : 0 ≤ d) {b0 : Nat} {s : aS} (hl : Ly tt cc s) (hk_b0 : aK s b0 70) {o : Int32} (h : dm255  b0 s = some o) : Q f sio tt cc d 255 0 [some (.ref b0)] [] s (.inl (some (.int o)), s) := by
  unfold dm255 at h
  refine Q.run zm255 1 (i' := 1) (ls' := [some (.ref b0)]) (st' := [.int 1]) rfl ?_
  refine Q.map (A.zF (gI_of zm255 (e := (3, 3, .ifCond .eq 10, [5])) rfl) (by decide)) ?_
  refine Q.run zm255 1 (i' := 3) (ls' := [some (.ref b0)]) (st' := [.ref b0]) rfl ?_
  refine Q.map (A.gf (gI_of zm255 (e := (7, 3, .getfield 15, [70, 1])) rfl) hk_b0.1 (hl.tx hk_b0).1 (by decide) rfl) ?_
  refine Q.run zm255 1 (i' := 6) (ls' := [some (.ref b0)]) (st' := [.int (sI s b0 1)]) rfl ?_
  obtain ⟨hc1, h⟩ := ite_so h
  cases h
  exact Q.ret (A.ri zm255 (show zM255.2.2.2.2.2[6]? = some (14, 1, .ireturn, []) from rfl) rfl (fit5 hc1)) hl
/-! 254 java/lang/String.length()I -/
set_option maxRecDepth 100000 in
theorem zm254 : zP[254]? = some zM254 := rfl
def dm254 (b0 : Nat) (s : aS) : Option (Int32) :=
  bu (dm255 b0 s) fun r3 =>
  some ((Int32.ofNat (sT s (b0 + 1)).2) >>> (r3 &&& 31))
set_option maxRecDepth 100000 in
theorem dt254 {f : Nat} {sio : Bool} {tt : Nat} {cc : Nat → Nat → Int32} {d : Nat} (hd : 1 ≤ d) {b0 : Nat} {s : aS} (hl : Ly tt cc s) (hk_b0 : aK s b0 70) {o : Int32} (h : dm254  b0 s = some o) : Q f sio tt cc d 254 0 [some (.ref b0)] [] s (.inl (some (.int o)), s) := by
  unfold dm254 at h
  obtain ⟨d, rfl⟩ : ∃ e, d = e + 1 := ⟨d - 1, by omega⟩
  refine Q.run zm254 1 (i' := 1) (ls' := [some (.ref b0)]) (st' := [.ref b0]) rfl ?_
  refine Q.map (A.gf (gI_of zm254 (e := (1, 3, .getfield 9, [70, 0])) rfl) hk_b0.1 (hl.tx hk_b0).1 (by decide) (hl.tx hk_b0).2.1) ?_
  refine Q.map (A.al (gI_of zm254 (e := (4, 1, .arraylength, [])) rfl) (hl.tx hk_b0).2.2.1 (pr2 (hl.tx hk_b0).2.2.2.1) (by decide)) ?_
  refine Q.run zm254 1 (i' := 4) (ls' := [some (.ref b0)]) (st' := [.ref b0, .int (Int32.ofNat (sT s (b0 + 1)).2)]) rfl ?_
  obtain ⟨r3, hc2, h⟩ := bu_so h
  have hq1 : Q f sio tt cc d 255 0 [some (.ref b0)] [] s (.inl (some (.int r3)), s) := dt255 (by omega) hl hk_b0 hc2
  refine Q.callI (gC_vi zm254 (show zM254.2.2.2.2.2[4]? = some (6, 3, .invokevirtual 335, [0, 255, 0, 70]) from rfl) zm255 hk_b0.1 (hl.tx hk_b0).1 rfl (show aCr 0 b0 [.ref b0, .int (Int32.ofNat (sT s (b0 + 1)).2)] 1 = some ([some (.ref b0)], [.int (Int32.ofNat (sT s (b0 + 1)).2)]) from rfl)) hq1 ?_
  refine Q.run zm254 1 (i' := 6) (ls' := [some (.ref b0)]) (st' := [.int ((Int32.ofNat (sT s (b0 + 1)).2) >>> (r3 &&& 31))]) rfl ?_
  cases h
  exact Q.ret (A.ri zm254 (show zM254.2.2.2.2.2[6]? = some (10, 1, .ireturn, []) from rfl) rfl rfl) hl
/-! 257 java/lang/StringLatin1.canEncode(I)Z -/
set_option maxRecDepth 100000 in
theorem zm257 : zP[257]? = some zM257 := rfl
def dm257 (x0 : Int32) : Option (Int32) :=
  if x0 < 0 then
    some 0
  else
    if 255 < x0 then
      some 0
    else
      some 1
set_option maxRecDepth 100000 in
theorem dt257 {f : Nat} {sio : Bool} {tt : Nat} {cc : Nat → Nat → Int32} {d : Nat} (hd : 0 ≤ d) {x0 : Int32} {s : aS} (hl : Ly tt cc s) {o : Int32} (h : dm257  x0 = some o) : Q f sio tt cc d 257 0 [some (.int x0)] [] s (.inl (some (.int o)), s) := by
  unfold dm257 at h
  refine Q.run zm257 1 (i' := 1) (ls' := [some (.int x0)]) (st' := [.int x0]) rfl ?_
  by_cases hc1 : x0 < 0
  · rw [if_pos hc1] at h
    refine Q.map (A.zT (gI_of zm257 (e := (1, 3, .ifCond .lt 14, [7])) rfl) (decide_eq_true hc1)) ?_
    refine Q.run zm257 1 (i' := 8) (ls' := [some (.int x0)]) (st' := [.int 0]) rfl ?_
    cases h
    exact Q.ret (A.ri zm257 (show zM257.2.2.2.2.2[8]? = some (16, 1, .ireturn, []) from rfl) rfl rfl) hl
  · rw [if_neg hc1] at h
    refine Q.map (A.zF (gI_of zm257 (e := (1, 3, .ifCond .lt 14, [7])) rfl) (fun q => hc1 (of_decide_eq_true q))) ?_
    refine Q.run zm257 2 (i' := 4) (ls' := [some (.int x0)]) (st' := [.int 255, .int x0]) rfl ?_
    by_cases hc2 : 255 < x0
    · rw [if_pos hc2] at h
      refine Q.map (A.bT (gI_of zm257 (e := (8, 3, .if_icmp .gt 7, [7])) rfl) (decide_eq_true hc2)) ?_
      refine Q.run zm257 1 (i' := 8) (ls' := [some (.int x0)]) (st' := [.int 0]) rfl ?_
      cases h
      exact Q.ret (A.ri zm257 (show zM257.2.2.2.2.2[8]? = some (16, 1, .ireturn, []) from rfl) rfl rfl) hl
    · rw [if_neg hc2] at h
      refine Q.map (A.bF (gI_of zm257 (e := (8, 3, .if_icmp .gt 7, [7])) rfl) (fun q => hc2 (of_decide_eq_true q))) ?_
      refine Q.run zm257 2 (i' := 8) (ls' := [some (.int x0)]) (st' := [.int 1]) rfl ?_
      cases h
      exact Q.ret (A.ri zm257 (show zM257.2.2.2.2.2[8]? = some (16, 1, .ireturn, []) from rfl) rfl rfl) hl
/-! 258 java/lang/StringLatin1.indexOfChar([BIII)I -/
set_option maxRecDepth 100000 in
theorem zm258 : zP[258]? = some zM258 := rfl
def dm258_5 : Nat → Nat → Int32 → Int32 → Int32 → aS → Option (Int32)
  | 0, _, _, _, _, _ => none
  | n + 1, b0, x3, x4, x5, s =>
    if x3 ≤ x5 then
      some (-1)
    else
      if aB x5 (sT s b0).2 then
        if (sI s b0 (jN x5)) = x4 then
          some x5
        else
          dm258_5 n b0 x3 x4 (x5 + 1) s
      else none
set_option maxRecDepth 100000 in
theorem dt258_5 {f : Nat} {sio : Bool} {tt : Nat} {cc : Nat → Nat → Int32} {d : Nat} (hd : 0 ≤ d) : ∀ (n : Nat) {b0 : Nat} {x3 : Int32} {x4 : Int32} {x5 : Int32} {x1 : Int32} {x2 : Int32} {s : aS} (_ : Ly tt cc s) (_ : aK s b0 101) {o : Int32} (_ : dm258_5  n b0 x3 x4 x5 s = some o), Q f sio tt cc d 258 5 [some (.ref b0), some (.int x1), some (.int x2), some (.int x3), some (.int x4), some (.int x5)] [] s (.inl (some (.int o)), s) := by
  intro n
  induction n with
  | zero => intro b0 x3 x4 x5 x1 x2 s hl hk_b0 o h; rw [dm258_5] at h; cases h
  | succ n ih =>
    intro b0 x3 x4 x5 x1 x2 s hl hk_b0 o h
    rw [dm258_5] at h
    refine Q.run zm258 2 (i' := 7) (ls' := [some (.ref b0), some (.int x1), some (.int x2), some (.int x3), some (.int x4), some (.int x5)]) (st' := [.int x3, .int x5]) rfl ?_
    by_cases hc1 : x3 ≤ x5
    · rw [if_pos hc1] at h
      refine Q.map (A.bT (gI_of zm258 (e := (10, 3, .if_icmp .ge 21, [17])) rfl) (decide_eq_true hc1)) ?_
      refine Q.run zm258 1 (i' := 18) (ls' := [some (.ref b0), some (.int x1), some (.int x2), some (.int x3), some (.int x4), some (.int x5)]) (st' := [.int (-1)]) rfl ?_
      cases h
      exact Q.ret (A.ri zm258 (show zM258.2.2.2.2.2[18]? = some (32, 1, .ireturn, []) from rfl) rfl rfl) hl
    · rw [if_neg hc1] at h
      refine Q.map (A.bF (gI_of zm258 (e := (10, 3, .if_icmp .ge 21, [17])) rfl) (fun q => hc1 (of_decide_eq_true q))) ?_
      refine Q.run zm258 2 (i' := 10) (ls' := [some (.ref b0), some (.int x1), some (.int x2), some (.int x3), some (.int x4), some (.int x5)]) (st' := [.int x5, .ref b0]) rfl ?_
      obtain ⟨hc2, h⟩ := ite_so h
      refine Q.map (A.ba (gI_of zm258 (e := (16, 1, .baload, [])) rfl) hk_b0.1 (pr2 hk_b0.2) (by decide) hc2) ?_
      refine Q.run zm258 1 (i' := 12) (ls' := [some (.ref b0), some (.int x1), some (.int x2), some (.int x3), some (.int x4), some (.int x5)]) (st' := [.int x4, .int (sI s b0 (jN x5))]) rfl ?_
      by_cases hc3 : (sI s b0 (jN x5)) = x4
      · rw [if_pos hc3] at h
        refine Q.map (A.bF (gI_of zm258 (e := (19, 3, .if_icmp .ne 6, [15])) rfl) (fun q => of_decide_eq_true q hc3)) ?_
        refine Q.run zm258 1 (i' := 14) (ls' := [some (.ref b0), some (.int x1), some (.int x2), some (.int x3), some (.int x4), some (.int x5)]) (st' := [.int x5]) rfl ?_
        cases h
        exact Q.ret (A.ri zm258 (show zM258.2.2.2.2.2[14]? = some (24, 1, .ireturn, []) from rfl) rfl rfl) hl
      · rw [if_neg hc3] at h
        refine Q.map (A.bT (gI_of zm258 (e := (19, 3, .if_icmp .ne 6, [15])) rfl) (decide_eq_true hc3)) ?_
        refine Q.run zm258 2 (i' := 5) (ls' := [some (.ref b0), some (.int x1), some (.int x2), some (.int x3), some (.int x4), some (.int (x5 + 1))]) (st' := []) rfl ?_
        exact ih hl hk_b0 h
def dm258 (b0 : Nat) (x1 : Int32) (x2 : Int32) (x3 : Int32) (s : aS) : Option (Int32) :=
  dm258_5 5000 b0 x3 x1.toInt8.toInt32 x2 s
set_option maxRecDepth 100000 in
theorem dt258 {f : Nat} {sio : Bool} {tt : Nat} {cc : Nat → Nat → Int32} {d : Nat} (hd : 0 ≤ d) {b0 : Nat} {x1 : Int32} {x2 : Int32} {x3 : Int32} {s : aS} (hl : Ly tt cc s) (hk_b0 : aK s b0 101) {o : Int32} (h : dm258  b0 x1 x2 x3 s = some o) : Q f sio tt cc d 258 0 [some (.ref b0), some (.int x1), some (.int x2), some (.int x3), none, none] [] s (.inl (some (.int o)), s) := by
  unfold dm258 at h
  refine Q.run zm258 5 (i' := 5) (ls' := [some (.ref b0), some (.int x1), some (.int x2), some (.int x3), some (.int x1.toInt8.toInt32), some (.int x2)]) (st' := []) rfl ?_
  exact dt258_5 hd _ hl hk_b0 h
/-! 256 java/lang/StringLatin1.indexOf([BIII)I -/
set_option maxRecDepth 100000 in
theorem zm256 : zP[256]? = some zM256 := rfl
def dm256 (b0 : Nat) (x1 : Int32) (x2 : Int32) (x3 : Int32) (s : aS) : Option (Int32) :=
  bu (dm257 x1) fun r3 =>
  if r3 = 0 then
    some (-1)
  else
    if (if x2 < 0 then 0 else x2) < (if (Int32.ofNat (sT s b0).2) < x3 then (Int32.ofNat (sT s b0).2) else x3) then
      bu (dm258 b0 x1 (if x2 < 0 then 0 else x2) (if (Int32.ofNat (sT s b0).2) < x3 then (Int32.ofNat (sT s b0).2) else x3) s) fun r8 =>
      some r8
    else
      some (-1)
set_option maxRecDepth 100000 in
theorem dt256 {f : Nat} {sio : Bool} {tt : Nat} {cc : Nat → Nat → Int32} {d : Nat} (hd : 1 ≤ d) {b0 : Nat} {x1 : Int32} {x2 : Int32} {x3 : Int32} {s : aS} (hl : Ly tt cc s) (hk_b0 : aK s b0 101) {o : Int32} (h : dm256  b0 x1 x2 x3 s = some o) : Q f sio tt cc d 256 0 [some (.ref b0), some (.int x1), some (.int x2), some (.int x3)] [] s (.inl (some (.int o)), s) := by
  unfold dm256 at h
  obtain ⟨d, rfl⟩ : ∃ e, d = e + 1 := ⟨d - 1, by omega⟩
  refine Q.run zm256 1 (i' := 1) (ls' := [some (.ref b0), some (.int x1), some (.int x2), some (.int x3)]) (st' := [.int x1]) rfl ?_
  obtain ⟨r3, hc2, h⟩ := bu_so h
  have hq1 : Q f sio tt cc d 257 0 [some (.int x1)] [] s (.inl (some (.int r3)), s) := dt257 (by omega) hl  hc2
  refine Q.callI (gC_st zm256 (show zM256.2.2.2.2.2[1]? = some (1, 3, .invokestatic 88, [0, 257, 1]) from rfl) zm257 (show aC 1 [.int x1] 1 = some ([some (.int x1)], []) from rfl)) hq1 ?_
  by_cases hc4 : r3 = 0
  · rw [if_pos hc4] at h
    refine Q.map (A.zF (gI_of zm256 (e := (4, 3, .ifCond .ne 5, [5])) rfl) (fun q => of_decide_eq_true q hc4)) ?_
    refine Q.run zm256 1 (i' := 4) (ls' := [some (.ref b0), some (.int x1), some (.int x2), some (.int x3)]) (st' := [.int (-1)]) rfl ?_
    cases h
    exact Q.ret (A.ri zm256 (show zM256.2.2.2.2.2[4]? = some (8, 1, .ireturn, []) from rfl) rfl rfl) hl
  · rw [if_neg hc4] at h
    refine Q.map (A.zT (gI_of zm256 (e := (4, 3, .ifCond .ne 5, [5])) rfl) (decide_eq_true hc4)) ?_
    refine Q.run zm256 2 (i' := 7) (ls' := [some (.ref b0), some (.int x1), some (.int x2), some (.int x3)]) (st' := [.int 0, .int x2]) rfl ?_
    refine Q.map (A.mx zm256 (eq_true (show 0 ≤ 8 by decide)) (show zM256.2.2.2.2.2[7]? = some (11, 3, .invokestatic 92, [3]) from rfl)) ?_
    refine Q.run zm256 3 (i' := 11) (ls' := [some (.ref b0), some (.int x1), some (.int (if x2 < 0 then 0 else x2)), some (.int x3)]) (st' := [.ref b0, .int x3]) rfl ?_
    refine Q.map (A.al (gI_of zm256 (e := (17, 1, .arraylength, [])) rfl) hk_b0.1 (pr2 hk_b0.2) (by decide)) ?_
    refine Q.map (A.mn zm256 (eq_true (show 0 ≤ 8 by decide)) (show zM256.2.2.2.2.2[12]? = some (18, 3, .invokestatic 38, [4]) from rfl)) ?_
    refine Q.run zm256 3 (i' := 16) (ls' := [some (.ref b0), some (.int x1), some (.int (if x2 < 0 then 0 else x2)), some (.int (if (Int32.ofNat (sT s b0).2) < x3 then (Int32.ofNat (sT s b0).2) else x3))]) (st' := [.int (if (Int32.ofNat (sT s b0).2) < x3 then (Int32.ofNat (sT s b0).2) else x3), .int (if x2 < 0 then 0 else x2)]) rfl ?_
    by_cases hc5 : (if x2 < 0 then 0 else x2) < (if (Int32.ofNat (sT s b0).2) < x3 then (Int32.ofNat (sT s b0).2) else x3)
    · rw [if_pos hc5] at h
      refine Q.map (A.bT (gI_of zm256 (e := (24, 3, .if_icmp .lt 5, [19])) rfl) (decide_eq_true hc5)) ?_
      refine Q.run zm256 4 (i' := 23) (ls' := [some (.ref b0), some (.int x1), some (.int (if x2 < 0 then 0 else x2)), some (.int (if (Int32.ofNat (sT s b0).2) < x3 then (Int32.ofNat (sT s b0).2) else x3))]) (st' := [.int (if (Int32.ofNat (sT s b0).2) < x3 then (Int32.ofNat (sT s b0).2) else x3), .int (if x2 < 0 then 0 else x2), .int x1, .ref b0]) rfl ?_
      obtain ⟨r8, hc7, h⟩ := bu_so h
      have hq6 : Q f sio tt cc d 258 0 [some (.ref b0), some (.int x1), some (.int (if x2 < 0 then 0 else x2)), some (.int (if (Int32.ofNat (sT s b0).2) < x3 then (Int32.ofNat (sT s b0).2) else x3)), none, none] [] s (.inl (some (.int r8)), s) := dt258 (by omega) hl hk_b0 hc7
      refine Q.callI (gC_st zm256 (show zM256.2.2.2.2.2[23]? = some (33, 3, .invokestatic 95, [0, 258, 4]) from rfl) zm258 (show aC 4 [.int (if (Int32.ofNat (sT s b0).2) < x3 then (Int32.ofNat (sT s b0).2) else x3), .int (if x2 < 0 then 0 else x2), .int x1, .ref b0] 6 = some ([some (.ref b0), some (.int x1), some (.int (if x2 < 0 then 0 else x2)), some (.int (if (Int32.ofNat (sT s b0).2) < x3 then (Int32.ofNat (sT s b0).2) else x3)), none, none], []) from rfl)) hq6 ?_
      cases h
      exact Q.ret (A.ri zm256 (show zM256.2.2.2.2.2[24]? = some (36, 1, .ireturn, []) from rfl) rfl rfl) hl
    · rw [if_neg hc5] at h
      refine Q.map (A.bF (gI_of zm256 (e := (24, 3, .if_icmp .lt 5, [19])) rfl) (fun q => hc5 (of_decide_eq_true q))) ?_
      refine Q.run zm256 1 (i' := 18) (ls' := [some (.ref b0), some (.int x1), some (.int (if x2 < 0 then 0 else x2)), some (.int (if (Int32.ofNat (sT s b0).2) < x3 then (Int32.ofNat (sT s b0).2) else x3))]) (st' := [.int (-1)]) rfl ?_
      cases h
      exact Q.ret (A.ri zm256 (show zM256.2.2.2.2.2[18]? = some (28, 1, .ireturn, []) from rfl) rfl rfl) hl
