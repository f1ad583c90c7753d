/-! 224 FormulaTreesModel.move(IIIII)V -/
set_option maxRecDepth 100000 in
theorem zm224 : zP[224]? = some zM224 := rfl
def dm224_85 : Nat → Int32 → Int32 → Int32 → Int32 → aS → Option (aS)
  | 0, _, _, _, _, _ => none
  | n + 1, x1, x4, x5, x7, s =>
    if 256 ≤ x7 then
      if aB x1 9 then
        if aB x5 9 then
          nx (wI s 127 (jN x5) (sI s 127 (jN x1))) fun s4 =>
          if aB x5 8 then
            nx (wI s4 125 (jN x5) ((1 : Int32) &&& 1)) fun s8 =>
            if aB x5 8 then
              nx (wI s8 126 (jN x5) x4) fun s12 =>
              some s12
            else none
          else none
        else none
      else none
    else
      if aB ((256 * x1) + x7) 2304 then
        if aB ((256 * x5) + x7) 2304 then
          nx (wI s 139 (jN ((256 * x5) + x7)) (sI s 139 (jN ((256 * x1) + x7)))) fun s17 =>
          dm224_85 n x1 x4 x5 (x7 + 1) s17
        else none
      else none
set_option maxRecDepth 100000 in
theorem dt224_85 {sio : Bool} {tt : Nat} {cc : Nat → Nat → Int32} {d : Nat} (hd : 2 ≤ d) : ∀ (n : Nat) {x1 : Int32} {x4 : Int32} {x5 : Int32} {x7 : Int32} {x2 : Int32} {x3 : Int32} {x6 : Int32} {g8 : Option Value} {s : aS} (_ : Ly tt cc s) {o : aS} (_ : dm224_85  n x1 x4 x5 x7 s = some o), Q 2 sio tt cc d 224 85 [some (.ref 121), some (.int x1), some (.int x2), some (.int x3), some (.int x4), some (.int x5), some (.int x6), some (.int x7), g8] [] s (.inl none, o) := by
  obtain ⟨d, rfl⟩ : ∃ e, d = e + 1 := ⟨d - 1, by omega⟩
  intro n
  induction n with
  | zero => intro x1 x4 x5 x7 x2 x3 x6 g8 s hl o h; rw [dm224_85] at h; cases h
  | succ n ih =>
    intro x1 x4 x5 x7 x2 x3 x6 g8 s hl o h
    rw [dm224_85] at h
    refine Q.run zm224 2 (i' := 87) (ls' := [some (.ref 121), some (.int x1), some (.int x2), some (.int x3), some (.int x4), some (.int x5), some (.int x6), some (.int x7), g8]) (st' := [.int 256, .int x7]) rfl ?_
    by_cases hc1 : 256 ≤ x7
    · rw [if_pos hc1] at h
      refine Q.map (A.bT (gI_of zm224 (e := (171, 3, .if_icmp .ge 36, [106])) rfl) (decide_eq_true hc1)) ?_
      refine Q.run zm224 1 (i' := 107) (ls' := [some (.ref 121), some (.int x1), some (.int x2), some (.int x3), some (.int x4), some (.int x5), some (.int x6), some (.int x7), g8]) (st' := [.ref 121]) rfl ?_
      refine Q.map (A.gf (gI_of zm224 (e := (208, 3, .getfield 26, [9, 8])) rfl) (hl.lt (a := 121) (by decide)) (hl.T (a := 121) (p := (9, 45)) 43 rfl rfl) (by decide) (hl.R 28 rfl)) ?_
      refine Q.run zm224 2 (i' := 110) (ls' := [some (.ref 121), some (.int x1), some (.int x2), some (.int x3), some (.int x4), some (.int x5), some (.int x6), some (.int x7), g8]) (st' := [.ref 121, .int x5, .ref 127]) rfl ?_
      refine Q.map (A.gf (gI_of zm224 (e := (214, 3, .getfield 26, [9, 8])) rfl) (hl.lt (a := 121) (by decide)) (hl.T (a := 121) (p := (9, 45)) 43 rfl rfl) (by decide) (hl.R 28 rfl)) ?_
      refine Q.run zm224 1 (i' := 112) (ls' := [some (.ref 121), some (.int x1), some (.int x2), some (.int x3), some (.int x4), some (.int x5), some (.int x6), some (.int x7), g8]) (st' := [.int x1, .ref 127, .int x5, .ref 127]) rfl ?_
      obtain ⟨hc2, h⟩ := ite_so h
      refine Q.map (A.ia (gI_of zm224 (e := (218, 1, .iaload, [])) rfl) (hl.lt (a := 127) (by decide)) (hl.T (a := 127) (p := (100, 9)) 49 rfl rfl) hc2) ?_
      obtain ⟨hc3, h⟩ := ite_so h
      obtain ⟨s4, hs5, h⟩ := nx_so h
      refine Q.is hs5 rfl (gI_of zm224 (e := (219, 1, .iastore, [])) rfl) (hl.lt (a := 127) (by decide)) (by decide) (hl.T (a := 127) (p := (100, 9)) 49 rfl rfl) hc3 ?_
      have hl6 : Ly tt cc s4 := by rw [hs5]; exact hl.wId (by decide)
      refine Q.run zm224 1 (i' := 115) (ls' := [some (.ref 121), some (.int x1), some (.int x2), some (.int x3), some (.int x4), some (.int x5), some (.int x6), some (.int x7), g8]) (st' := [.ref 121]) rfl ?_
      refine Q.map (A.gf (gI_of zm224 (e := (221, 3, .getfield 19, [9, 6])) rfl) (hl6.lt (a := 121) (by decide)) (hl6.T (a := 121) (p := (9, 45)) 43 rfl rfl) (by decide) (hl6.R 26 rfl)) ?_
      refine Q.run zm224 2 (i' := 118) (ls' := [some (.ref 121), some (.int x1), some (.int x2), some (.int x3), some (.int x4), some (.int x5), some (.int x6), some (.int x7), g8]) (st' := [.int 1, .int x5, .ref 125]) rfl ?_
      obtain ⟨hc7, h⟩ := ite_so h
      obtain ⟨s8, hs9, h⟩ := nx_so h
      refine Q.bs hs9 rfl (gI_of zm224 (e := (227, 1, .bastore, [])) rfl) (hl6.lt (a := 125) (by decide)) (by decide) (hl6.T (a := 125) (p := (103, 8)) 47 rfl rfl) hc7 ?_
      have hl10 : Ly tt cc s8 := by rw [hs9]; exact hl6.wId (by decide)
      refine Q.run zm224 1 (i' := 120) (ls' := [some (.ref 121), some (.int x1), some (.int x2), some (.int x3), some (.int x4), some (.int x5), some (.int x6), some (.int x7), g8]) (st' := [.ref 121]) rfl ?_
      refine Q.map (A.gf (gI_of zm224 (e := (229, 3, .getfield 23, [9, 7])) rfl) (hl10.lt (a := 121) (by decide)) (hl10.T (a := 121) (p := (9, 45)) 43 rfl rfl) (by decide) (hl10.R 27 rfl)) ?_
      refine Q.run zm224 2 (i' := 123) (ls' := [some (.ref 121), some (.int x1), some (.int x2), some (.int x3), some (.int x4), some (.int x5), some (.int x6), some (.int x7), g8]) (st' := [.int x4, .int x5, .ref 126]) rfl ?_
      obtain ⟨hc11, h⟩ := ite_so h
      obtain ⟨s12, hs13, h⟩ := nx_so h
      refine Q.is hs13 rfl (gI_of zm224 (e := (236, 1, .iastore, [])) rfl) (hl10.lt (a := 126) (by decide)) (by decide) (hl10.T (a := 126) (p := (100, 8)) 48 rfl rfl) hc11 ?_
      have hl14 : Ly tt cc s12 := by rw [hs13]; exact hl10.wId (by decide)
      cases h
      exact Q.ret (A.rv zm224 (show zM224.2.2.2.2.2[124]? = some (237, 1, .return_, []) from rfl) rfl) hl14
    · rw [if_neg hc1] at h
      refine Q.map (A.bF (gI_of zm224 (e := (171, 3, .if_icmp .ge 36, [106])) rfl) (fun q => hc1 (of_decide_eq_true q))) ?_
      refine Q.run zm224 1 (i' := 89) (ls' := [some (.ref 121), some (.int x1), some (.int x2), some (.int x3), some (.int x4), some (.int x5), some (.int x6), some (.int x7), g8]) (st' := [.ref 121]) rfl ?_
      refine Q.map (A.gf (gI_of zm224 (e := (175, 3, .getfield 62, [9, 20])) rfl) (hl.lt (a := 121) (by decide)) (hl.T (a := 121) (p := (9, 45)) 43 rfl rfl) (by decide) (hl.R 40 rfl)) ?_
      refine Q.run zm224 6 (i' := 96) (ls' := [some (.ref 121), some (.int x1), some (.int x2), some (.int x3), some (.int x4), some (.int x5), some (.int x6), some (.int x7), g8]) (st' := [.ref 121, .int ((256 * x5) + x7), .ref 139]) rfl ?_
      refine Q.map (A.gf (gI_of zm224 (e := (188, 3, .getfield 62, [9, 20])) rfl) (hl.lt (a := 121) (by decide)) (hl.T (a := 121) (p := (9, 45)) 43 rfl rfl) (by decide) (hl.R 40 rfl)) ?_
      refine Q.run zm224 5 (i' := 102) (ls' := [some (.ref 121), some (.int x1), some (.int x2), some (.int x3), some (.int x4), some (.int x5), some (.int x6), some (.int x7), g8]) (st' := [.int ((256 * x1) + x7), .ref 139, .int ((256 * x5) + x7), .ref 139]) rfl ?_
      obtain ⟨hc15, h⟩ := ite_so h
      refine Q.map (A.ia (gI_of zm224 (e := (199, 1, .iaload, [])) rfl) (hl.lt (a := 139) (by decide)) (hl.T (a := 139) (p := (100, 2304)) 61 rfl rfl) hc15) ?_
      obtain ⟨hc16, h⟩ := ite_so h
      obtain ⟨s17, hs18, h⟩ := nx_so h
      refine Q.is hs18 rfl (gI_of zm224 (e := (200, 1, .iastore, [])) rfl) (hl.lt (a := 139) (by decide)) (by decide) (hl.T (a := 139) (p := (100, 2304)) 61 rfl rfl) hc16 ?_
      have hl19 : Ly tt cc s17 := by rw [hs18]; exact hl.wId (by decide)
      refine Q.run zm224 2 (i' := 85) (ls' := [some (.ref 121), some (.int x1), some (.int x2), some (.int x3), some (.int x4), some (.int x5), some (.int x6), some (.int (x7 + 1)), g8]) (st' := []) rfl ?_
      exact ih hl19  h
def dm224_81 (k44 : Int32 → Int32 → Int32 → Int32 → Int32 → Int32 → aS → Option (aS)) (x1 : Int32) (x2 : Int32) (x3 : Int32) (x4 : Int32) (x5 : Int32) (x7 : Int32) (s : aS) : Option (aS) :=
  k44 x1 x2 x3 x4 x5 (x7 + 1) s
set_option maxRecDepth 100000 in
theorem dt224_81 {sio : Bool} {tt : Nat} {cc : Nat → Nat → Int32} {d : Nat} (hd : 2 ≤ d) {k44 : Int32 → Int32 → Int32 → Int32 → Int32 → Int32 → aS → Option (aS)} (hk44 : ∀ {x1 : Int32} {x2 : Int32} {x3 : Int32} {x4 : Int32} {x5 : Int32} {x7 : Int32} {x6 : Int32} {g8 : Option Value} {s : aS}, Ly tt cc s → ∀ {o : aS}, k44 x1 x2 x3 x4 x5 x7 s = some o → Q 2 sio tt cc d 224 44 [some (.ref 121), some (.int x1), some (.int x2), some (.int x3), some (.int x4), some (.int x5), some (.int x6), some (.int x7), g8] [] s (.inl none, o)) {x1 : Int32} {x2 : Int32} {x3 : Int32} {x4 : Int32} {x5 : Int32} {x7 : Int32} {x6 : Int32} {x8 : Int32} {s : aS} (hl : Ly tt cc s) {o : aS} (h : dm224_81 k44 x1 x2 x3 x4 x5 x7 s = some o) : Q 2 sio tt cc d 224 81 [some (.ref 121), some (.int x1), some (.int x2), some (.int x3), some (.int x4), some (.int x5), some (.int x6), some (.int x7), some (.int x8)] [] s (.inl none, o) := by
  unfold dm224_81 at h
  obtain ⟨d, rfl⟩ : ∃ e, d = e + 1 := ⟨d - 1, by omega⟩
  refine Q.run zm224 2 (i' := 44) (ls' := [some (.ref 121), some (.int x1), some (.int x2), some (.int x3), some (.int x4), some (.int x5), some (.int x6), some (.int (x7 + 1)), some (.int x8)]) (st' := []) rfl ?_
  exact hk44 hl  h
def dm224_76 (k44 : Int32 → Int32 → Int32 → Int32 → Int32 → Int32 → aS → Option (aS)) (x1 : Int32) (x2 : Int32) (x3 : Int32) (x4 : Int32) (x5 : Int32) (x7 : Int32) (x8 : Int32) (s : aS) : Option (aS) :=
  bu (dm226 x8 x2 x3 s) fun s3 =>
  dm224_81 k44 x1 x2 x3 x4 x5 x7 s3
set_option maxRecDepth 100000 in
theorem dt224_76 {sio : Bool} {tt : Nat} {cc : Nat → Nat → Int32} {d : Nat} (hd : 2 ≤ d) {k44 : Int32 → Int32 → Int32 → Int32 → Int32 → Int32 → aS → Option (aS)} (hk44 : ∀ {x1 : Int32} {x2 : Int32} {x3 : Int32} {x4 : Int32} {x5 : Int32} {x7 : Int32} {x6 : Int32} {g8 : Option Value} {s : aS}, Ly tt cc s → ∀ {o : aS}, k44 x1 x2 x3 x4 x5 x7 s = some o → Q 2 sio tt cc d 224 44 [some (.ref 121), some (.int x1), some (.int x2), some (.int x3), some (.int x4), some (.int x5), some (.int x6), some (.int x7), g8] [] s (.inl none, o)) {x1 : Int32} {x2 : Int32} {x3 : Int32} {x4 : Int32} {x5 : Int32} {x7 : Int32} {x8 : Int32} {x6 : Int32} {s : aS} (hl : Ly tt cc s) {o : aS} (h : dm224_76 k44 x1 x2 x3 x4 x5 x7 x8 s = some o) : Q 2 sio tt cc d 224 76 [some (.ref 121), some (.int x1), some (.int x2), some (.int x3), some (.int x4), some (.int x5), some (.int x6), some (.int x7), some (.int x8)] [] s (.inl none, o) := by
  unfold dm224_76 at h
  obtain ⟨d, rfl⟩ : ∃ e, d = e + 1 := ⟨d - 1, by omega⟩
  refine Q.run zm224 4 (i' := 80) (ls' := [some (.ref 121), some (.int x1), some (.int x2), some (.int x3), some (.int x4), some (.int x5), some (.int x6), some (.int x7), some (.int x8)]) (st' := [.int x3, .int x2, .int x8, .ref 121]) rfl ?_
  obtain ⟨s3, hc2, h⟩ := bu_so h
  have hq1 : Q 2 sio tt cc d 226 0 [some (.ref 121), some (.int x8), some (.int x2), some (.int x3), none] [] s (.inl none, s3) := dt226 (by omega) hl  hc2
  refine Q.callV (gC_vi zm224 (show zM224.2.2.2.2.2[80]? = some (154, 3, .invokevirtual 313, [0, 226, 3, 9]) from rfl) zm226 (hl.lt (a := 121) (by decide)) (hl.T (a := 121) (p := (9, 45)) 43 rfl rfl) rfl (show aCr 3 121 [.int x3, .int x2, .int x8, .ref 121] 5 = some ([some (.ref 121), some (.int x8), some (.int x2), some (.int x3), none], []) from rfl)) hq1 ?_
  exact dt224_81 hd hk44 hq1.1  h
def dm224_44 : Nat → Int32 → Int32 → Int32 → Int32 → Int32 → Int32 → aS → Option (aS)
  | 0, _, _, _, _, _, _, _ => none
  | n + 1, x1, x2, x3, x4, x5, x7, s =>
    if aB x1 9 then
      if (sI s 127 (jN x1)) ≤ x7 then
        dm224_85 5000 x1 x4 x5 0 s
      else
        bu (dm223 ((128 * x1) + x7) ((128 * x5) + x7) s) fun s5 =>
        if aB ((128 * x5) + x7) 1152 then
          if (sI s5 128 (jN ((128 * x5) + x7))) = 4 then
            dm224_76 (dm224_44 n) x1 x2 x3 x4 x5 x7 ((128 * x5) + x7) s5
          else
            if aB ((128 * x5) + x7) 1152 then
              if (sI s5 128 (jN ((128 * x5) + x7))) = 5 then
                dm224_76 (dm224_44 n) x1 x2 x3 x4 x5 x7 ((128 * x5) + x7) s5
              else
                dm224_81 (dm224_44 n) x1 x2 x3 x4 x5 x7 s5
            else none
        else none
    else none
set_option maxRecDepth 100000 in
theorem dt224_44 {sio : Bool} {tt : Nat} {cc : Nat → Nat → Int32} {d : Nat} (hd : 2 ≤ d) : ∀ (n : Nat) {x1 : Int32} {x2 : Int32} {x3 : Int32} {x4 : Int32} {x5 : Int32} {x7 : Int32} {x6 : Int32} {g8 : Option Value} {s : aS} (_ : Ly tt cc s) {o : aS} (_ : dm224_44  n x1 x2 x3 x4 x5 x7 s = some o), Q 2 sio tt cc d 224 44 [some (.ref 121), some (.int x1), some (.int x2), some (.int x3), some (.int x4), some (.int x5), some (.int x6), some (.int x7), g8] [] s (.inl none, o) := by
  obtain ⟨d, rfl⟩ : ∃ e, d = e + 1 := ⟨d - 1, by omega⟩
  intro n
  induction n with
  | zero => intro x1 x2 x3 x4 x5 x7 x6 g8 s hl o h; rw [dm224_44] at h; cases h
  | succ n ih =>
    intro x1 x2 x3 x4 x5 x7 x6 g8 s hl o h
    rw [dm224_44] at h
    refine Q.run zm224 2 (i' := 46) (ls' := [some (.ref 121), some (.int x1), some (.int x2), some (.int x3), some (.int x4), some (.int x5), some (.int x6), some (.int x7), g8]) (st' := [.ref 121, .int x7]) rfl ?_
    refine Q.map (A.gf (gI_of zm224 (e := (94, 3, .getfield 26, [9, 8])) rfl) (hl.lt (a := 121) (by decide)) (hl.T (a := 121) (p := (9, 45)) 43 rfl rfl) (by decide) (hl.R 28 rfl)) ?_
    refine Q.run zm224 1 (i' := 48) (ls' := [some (.ref 121), some (.int x1), some (.int x2), some (.int x3), some (.int x4), some (.int x5), some (.int x6), some (.int x7), g8]) (st' := [.int x1, .ref 127, .int x7]) rfl ?_
    obtain ⟨hc1, h⟩ := ite_so h
    refine Q.map (A.ia (gI_of zm224 (e := (98, 1, .iaload, [])) rfl) (hl.lt (a := 127) (by decide)) (hl.T (a := 127) (p := (100, 9)) 49 rfl rfl) hc1) ?_
    by_cases hc2 : (sI s 127 (jN x1)) ≤ x7
    · rw [if_pos hc2] at h
      refine Q.map (A.bT (gI_of zm224 (e := (99, 3, .if_icmp .ge 64, [83])) rfl) (decide_eq_true hc2)) ?_
      refine Q.run zm224 2 (i' := 85) (ls' := [some (.ref 121), some (.int x1), some (.int x2), some (.int x3), some (.int x4), some (.int x5), some (.int x6), some (.int 0), g8]) (st' := []) rfl ?_
      exact dt224_85 hd _ hl  h
    · rw [if_neg hc2] at h
      refine Q.map (A.bF (gI_of zm224 (e := (99, 3, .if_icmp .ge 64, [83])) rfl) (fun q => hc2 (of_decide_eq_true q))) ?_
      refine Q.run zm224 13 (i' := 63) (ls' := [some (.ref 121), some (.int x1), some (.int x2), some (.int x3), some (.int x4), some (.int x5), some (.int x6), some (.int x7), some (.int ((128 * x5) + x7))]) (st' := [.int ((128 * x5) + x7), .int ((128 * x1) + x7), .ref 121]) rfl ?_
      obtain ⟨s5, hc4, h⟩ := bu_so h
      have hq3 : Q 2 sio tt cc d 223 0 [some (.ref 121), some (.int ((128 * x1) + x7)), some (.int ((128 * x5) + x7))] [] s (.inl none, s5) := dt223 (by omega) hl  hc4
      refine Q.callV (gC_vi zm224 (show zM224.2.2.2.2.2[63]? = some (124, 3, .invokevirtual 297, [0, 223, 2, 9]) from rfl) zm223 (hl.lt (a := 121) (by decide)) (hl.T (a := 121) (p := (9, 45)) 43 rfl rfl) rfl (show aCr 2 121 [.int ((128 * x5) + x7), .int ((128 * x1) + x7), .ref 121] 3 = some ([some (.ref 121), some (.int ((128 * x1) + x7)), some (.int ((128 * x5) + x7))], []) from rfl)) hq3 ?_
      refine Q.run zm224 1 (i' := 65) (ls' := [some (.ref 121), some (.int x1), some (.int x2), some (.int x3), some (.int x4), some (.int x5), some (.int x6), some (.int x7), some (.int ((128 * x5) + x7))]) (st' := [.ref 121]) rfl ?_
      refine Q.map (A.gf (gI_of zm224 (e := (128, 3, .getfield 29, [9, 9])) rfl) (hq3.1.lt (a := 121) (by decide)) (hq3.1.T (a := 121) (p := (9, 45)) 43 rfl rfl) (by decide) (hq3.1.R 29 rfl)) ?_
      refine Q.run zm224 1 (i' := 67) (ls' := [some (.ref 121), some (.int x1), some (.int x2), some (.int x3), some (.int x4), some (.int x5), some (.int x6), some (.int x7), some (.int ((128 * x5) + x7))]) (st' := [.int ((128 * x5) + x7), .ref 128]) rfl ?_
      obtain ⟨hc6, h⟩ := ite_so h
      refine Q.map (A.ia (gI_of zm224 (e := (133, 1, .iaload, [])) rfl) (hq3.1.lt (a := 128) (by decide)) (hq3.1.T (a := 128) (p := (100, 1152)) 50 rfl rfl) hc6) ?_
      refine Q.run zm224 1 (i' := 69) (ls' := [some (.ref 121), some (.int x1), some (.int x2), some (.int x3), some (.int x4), some (.int x5), some (.int x6), some (.int x7), some (.int ((128 * x5) + x7))]) (st' := [.int 4, .int (sI s5 128 (jN ((128 * x5) + x7)))]) rfl ?_
      by_cases hc7 : (sI s5 128 (jN ((128 * x5) + x7))) = 4
      · rw [if_pos hc7] at h
        refine Q.map (A.bT (gI_of zm224 (e := (135, 3, .if_icmp .eq 14, [76])) rfl) (decide_eq_true hc7)) ?_
        exact dt224_76 hd ih hq3.1  h
      · rw [if_neg hc7] at h
        refine Q.map (A.bF (gI_of zm224 (e := (135, 3, .if_icmp .eq 14, [76])) rfl) (fun q => hc7 (of_decide_eq_true q))) ?_
        refine Q.run zm224 1 (i' := 71) (ls' := [some (.ref 121), some (.int x1), some (.int x2), some (.int x3), some (.int x4), some (.int x5), some (.int x6), some (.int x7), some (.int ((128 * x5) + x7))]) (st' := [.ref 121]) rfl ?_
        refine Q.map (A.gf (gI_of zm224 (e := (139, 3, .getfield 29, [9, 9])) rfl) (hq3.1.lt (a := 121) (by decide)) (hq3.1.T (a := 121) (p := (9, 45)) 43 rfl rfl) (by decide) (hq3.1.R 29 rfl)) ?_
        refine Q.run zm224 1 (i' := 73) (ls' := [some (.ref 121), some (.int x1), some (.int x2), some (.int x3), some (.int x4), some (.int x5), some (.int x6), some (.int x7), some (.int ((128 * x5) + x7))]) (st' := [.int ((128 * x5) + x7), .ref 128]) rfl ?_
        obtain ⟨hc8, h⟩ := ite_so h
        refine Q.map (A.ia (gI_of zm224 (e := (144, 1, .iaload, [])) rfl) (hq3.1.lt (a := 128) (by decide)) (hq3.1.T (a := 128) (p := (100, 1152)) 50 rfl rfl) hc8) ?_
        refine Q.run zm224 1 (i' := 75) (ls' := [some (.ref 121), some (.int x1), some (.int x2), some (.int x3), some (.int x4), some (.int x5), some (.int x6), some (.int x7), some (.int ((128 * x5) + x7))]) (st' := [.int 5, .int (sI s5 128 (jN ((128 * x5) + x7)))]) rfl ?_
        by_cases hc9 : (sI s5 128 (jN ((128 * x5) + x7))) = 5
        · rw [if_pos hc9] at h
          refine Q.map (A.bF (gI_of zm224 (e := (146, 3, .if_icmp .ne 11, [81])) rfl) (fun q => of_decide_eq_true q hc9)) ?_
          exact dt224_76 hd ih hq3.1  h
        · rw [if_neg hc9] at h
          refine Q.map (A.bT (gI_of zm224 (e := (146, 3, .if_icmp .ne 11, [81])) rfl) (decide_eq_true hc9)) ?_
          exact dt224_81 hd ih hq3.1  h
def dm224_37 (x1 : Int32) (x2 : Int32) (x3 : Int32) (x4 : Int32) (x5 : Int32) (y1 : Int32) (s : aS) : Option (aS) :=
  nx (wI s 121 0 y1) fun s1 =>
  if (sI s1 121 0) ≤ 0 then
    dm224_44 5000 x1 x2 x3 x4 x5 0 s1
  else
    some s1
set_option maxRecDepth 100000 in
theorem dt224_37 {sio : Bool} {tt : Nat} {cc : Nat → Nat → Int32} {d : Nat} (hd : 2 ≤ d) {x1 : Int32} {x2 : Int32} {x3 : Int32} {x4 : Int32} {x5 : Int32} {y1 : Int32} {x6 : Int32} {s : aS} (hl : Ly tt cc s) {o : aS} (h : dm224_37  x1 x2 x3 x4 x5 y1 s = some o) : Q 2 sio tt cc d 224 37 [some (.ref 121), some (.int x1), some (.int x2), some (.int x3), some (.int x4), some (.int x5), some (.int x6), none, none] [.int y1, .ref 121] s (.inl none, o) := by
  unfold dm224_37 at h
  obtain ⟨d, rfl⟩ : ∃ e, d = e + 1 := ⟨d - 1, by omega⟩
  obtain ⟨s1, hs2, h⟩ := nx_so h
  refine Q.pf hs2 rfl (gI_of zm224 (e := (77, 3, .putfield 89, [9, 0, 0])) rfl) (hl.lt (a := 121) (by decide)) (by decide) (hl.T (a := 121) (p := (9, 45)) 43 rfl rfl) (by decide) rfl rfl ?_
  have hl3 : Ly tt cc s1 := by rw [hs2]; exact hl.wId (by decide)
  refine Q.run zm224 1 (i' := 39) (ls' := [some (.ref 121), some (.int x1), some (.int x2), some (.int x3), some (.int x4), some (.int x5), some (.int x6), none, none]) (st' := [.ref 121]) rfl ?_
  refine Q.map (A.gf (gI_of zm224 (e := (81, 3, .getfield 89, [9, 0])) rfl) (hl3.lt (a := 121) (by decide)) (hl3.T (a := 121) (p := (9, 45)) 43 rfl rfl) (by decide) rfl) ?_
  by_cases hc4 : (sI s1 121 0) ≤ 0
  · rw [if_pos hc4] at h
    refine Q.map (A.zT (gI_of zm224 (e := (84, 3, .ifCond .le 4, [42])) rfl) (decide_eq_true hc4)) ?_
    refine Q.run zm224 2 (i' := 44) (ls' := [some (.ref 121), some (.int x1), some (.int x2), some (.int x3), some (.int x4), some (.int x5), some (.int x6), some (.int 0), none]) (st' := []) rfl ?_
    exact dt224_44 hd _ hl3  h
  · rw [if_neg hc4] at h
    refine Q.map (A.zF (gI_of zm224 (e := (84, 3, .ifCond .le 4, [42])) rfl) (fun q => hc4 (of_decide_eq_true q))) ?_
    cases h
    exact Q.ret (A.rv zm224 (show zM224.2.2.2.2.2[41]? = some (87, 1, .return_, []) from rfl) rfl) hl3
def dm224_30 (x1 : Int32) (x2 : Int32) (x3 : Int32) (x4 : Int32) (x5 : Int32) (s : aS) : Option (aS) :=
  dm224_37 x1 x2 x3 x4 x5 1 s
set_option maxRecDepth 100000 in
theorem dt224_30 {sio : Bool} {tt : Nat} {cc : Nat → Nat → Int32} {d : Nat} (hd : 2 ≤ d) {x1 : Int32} {x2 : Int32} {x3 : Int32} {x4 : Int32} {x5 : Int32} {x6 : Int32} {s : aS} (hl : Ly tt cc s) {o : aS} (h : dm224_30  x1 x2 x3 x4 x5 s = some o) : Q 2 sio tt cc d 224 30 [some (.ref 121), some (.int x1), some (.int x2), some (.int x3), some (.int x4), some (.int x5), some (.int x6), none, none] [.ref 121] s (.inl none, o) := by
  unfold dm224_30 at h
  obtain ⟨d, rfl⟩ : ∃ e, d = e + 1 := ⟨d - 1, by omega⟩
  refine Q.run zm224 2 (i' := 37) (ls' := [some (.ref 121), some (.int x1), some (.int x2), some (.int x3), some (.int x4), some (.int x5), some (.int x6), none, none]) (st' := [.int 1, .ref 121]) rfl ?_
  exact dt224_37 hd hl  h
def dm224_15 (x1 : Int32) (x2 : Int32) (x3 : Int32) (x4 : Int32) (x5 : Int32) (y0 : Int32) (s : aS) : Option (aS) :=
  if x5 < 0 then
    dm224_30 x1 x2 x3 x4 x5 s
  else
    if 7 < x5 then
      dm224_30 x1 x2 x3 x4 x5 s
    else
      bu (dm225 x1 s) fun r5 =>
      if r5 = 0 then
        bu (dm181 x4 s) fun r9 =>
        if r9 = 0 then
          if y0 = 0 then
            dm224_37 x1 x2 x3 x4 x5 0 s
          else
            dm224_37 x1 x2 x3 x4 x5 2 s
        else
          dm224_30 x1 x2 x3 x4 x5 s
      else
        dm224_30 x1 x2 x3 x4 x5 s
set_option maxRecDepth 100000 in
theorem dt224_15 {sio : Bool} {tt : Nat} {cc : Nat → Nat → Int32} {d : Nat} (hd : 2 ≤ d) {x1 : Int32} {x2 : Int32} {x3 : Int32} {x4 : Int32} {x5 : Int32} {y0 : Int32} {s : aS} (hl : Ly tt cc s) {o : aS} (h : dm224_15  x1 x2 x3 x4 x5 y0 s = some o) : Q 2 sio tt cc d 224 15 [some (.ref 121), some (.int x1), some (.int x2), some (.int x3), some (.int x4), some (.int x5), none, none, none] [.int y0] s (.inl none, o) := by
  unfold dm224_15 at h
  obtain ⟨d, rfl⟩ : ∃ e, d = e + 1 := ⟨d - 1, by omega⟩
  refine Q.run zm224 3 (i' := 18) (ls' := [some (.ref 121), some (.int x1), some (.int x2), some (.int x3), some (.int x4), some (.int x5), some (.int y0), none, none]) (st' := [.int x5, .ref 121]) rfl ?_
  by_cases hc1 : x5 < 0
  · rw [if_pos hc1] at h
    refine Q.map (A.zT (gI_of zm224 (e := (36, 3, .ifCond .lt 27, [30])) rfl) (decide_eq_true hc1)) ?_
    exact dt224_30 hd hl  h
  · rw [if_neg hc1] at h
    refine Q.map (A.zF (gI_of zm224 (e := (36, 3, .ifCond .lt 27, [30])) rfl) (fun q => hc1 (of_decide_eq_true q))) ?_
    refine Q.run zm224 2 (i' := 21) (ls' := [some (.ref 121), some (.int x1), some (.int x2), some (.int x3), some (.int x4), some (.int x5), some (.int y0), none, none]) (st' := [.int 7, .int x5, .ref 121]) rfl ?_
    by_cases hc2 : 7 < x5
    · rw [if_pos hc2] at h
      refine Q.map (A.bT (gI_of zm224 (e := (43, 3, .if_icmp .gt 20, [30])) rfl) (decide_eq_true hc2)) ?_
      exact dt224_30 hd hl  h
    · rw [if_neg hc2] at h
      refine Q.map (A.bF (gI_of zm224 (e := (43, 3, .if_icmp .gt 20, [30])) rfl) (fun q => hc2 (of_decide_eq_true q))) ?_
      refine Q.run zm224 2 (i' := 24) (ls' := [some (.ref 121), some (.int x1), some (.int x2), some (.int x3), some (.int x4), some (.int x5), some (.int y0), none, none]) (st' := [.int x1, .ref 121, .ref 121]) rfl ?_
      obtain ⟨r5, hc4, h⟩ := bu_so h
      have hq3 : Q 2 sio tt cc d 225 0 [some (.ref 121), some (.int x1)] [] s (.inl (some (.int r5)), s) := dt225 (by omega) hl  hc4
      refine Q.callI (gC_vi zm224 (show zM224.2.2.2.2.2[24]? = some (48, 3, .invokevirtual 310, [0, 225, 1, 9]) from rfl) zm225 (hl.lt (a := 121) (by decide)) (hl.T (a := 121) (p := (9, 45)) 43 rfl rfl) rfl (show aCr 1 121 [.int x1, .ref 121, .ref 121] 2 = some ([some (.ref 121), some (.int x1)], [.ref 121]) from rfl)) hq3 ?_
      by_cases hc6 : r5 = 0
      · rw [if_pos hc6] at h
        refine Q.map (A.zF (gI_of zm224 (e := (51, 3, .ifCond .ne 12, [30])) rfl) (fun q => of_decide_eq_true q hc6)) ?_
        refine Q.run zm224 2 (i' := 28) (ls' := [some (.ref 121), some (.int x1), some (.int x2), some (.int x3), some (.int x4), some (.int x5), some (.int y0), none, none]) (st' := [.int x4, .ref 121, .ref 121]) rfl ?_
        obtain ⟨r9, hc8, h⟩ := bu_so h
        have hq7 : Q 2 sio tt cc d 181 0 [some (.ref 121), some (.int x4)] [] s (.inl (some (.int r9)), s) := dt181 (by omega) hl  hc8
        refine Q.callI (gC_vi zm224 (show zM224.2.2.2.2.2[28]? = some (57, 3, .invokevirtual 128, [0, 181, 1, 9]) from rfl) zm181 (hl.lt (a := 121) (by decide)) (hl.T (a := 121) (p := (9, 45)) 43 rfl rfl) rfl (show aCr 1 121 [.int x4, .ref 121, .ref 121] 2 = some ([some (.ref 121), some (.int x4)], [.ref 121]) from rfl)) hq7 ?_
        by_cases hc10 : r9 = 0
        · rw [if_pos hc10] at h
          refine Q.map (A.zT (gI_of zm224 (e := (60, 3, .ifCond .eq 7, [32])) rfl) (decide_eq_true hc10)) ?_
          refine Q.run zm224 1 (i' := 33) (ls' := [some (.ref 121), some (.int x1), some (.int x2), some (.int x3), some (.int x4), some (.int x5), some (.int y0), none, none]) (st' := [.int y0, .ref 121]) rfl ?_
          by_cases hc11 : y0 = 0
          · rw [if_pos hc11] at h
            refine Q.map (A.zT (gI_of zm224 (e := (69, 3, .ifCond .eq 7, [36])) rfl) (decide_eq_true hc11)) ?_
            refine Q.run zm224 1 (i' := 37) (ls' := [some (.ref 121), some (.int x1), some (.int x2), some (.int x3), some (.int x4), some (.int x5), some (.int y0), none, none]) (st' := [.int 0, .ref 121]) rfl ?_
            exact dt224_37 hd hl  h
          · rw [if_neg hc11] at h
            refine Q.map (A.zF (gI_of zm224 (e := (69, 3, .ifCond .eq 7, [36])) rfl) (fun q => hc11 (of_decide_eq_true q))) ?_
            refine Q.run zm224 2 (i' := 37) (ls' := [some (.ref 121), some (.int x1), some (.int x2), some (.int x3), some (.int x4), some (.int x5), some (.int y0), none, none]) (st' := [.int 2, .ref 121]) rfl ?_
            exact dt224_37 hd hl  h
        · rw [if_neg hc10] at h
          refine Q.map (A.zF (gI_of zm224 (e := (60, 3, .ifCond .eq 7, [32])) rfl) (fun q => hc10 (of_decide_eq_true q))) ?_
          exact dt224_30 hd hl  h
      · rw [if_neg hc6] at h
        refine Q.map (A.zT (gI_of zm224 (e := (51, 3, .ifCond .ne 12, [30])) rfl) (decide_eq_true hc6)) ?_
        exact dt224_30 hd hl  h
def dm224_12 (x1 : Int32) (x2 : Int32) (x3 : Int32) (x4 : Int32) (x5 : Int32) (s : aS) : Option (aS) :=
  dm224_15 x1 x2 x3 x4 x5 1 s
set_option maxRecDepth 100000 in
theorem dt224_12 {sio : Bool} {tt : Nat} {cc : Nat → Nat → Int32} {d : Nat} (hd : 2 ≤ d) {x1 : Int32} {x2 : Int32} {x3 : Int32} {x4 : Int32} {x5 : Int32} {s : aS} (hl : Ly tt cc s) {o : aS} (h : dm224_12  x1 x2 x3 x4 x5 s = some o) : Q 2 sio tt cc d 224 12 [some (.ref 121), some (.int x1), some (.int x2), some (.int x3), some (.int x4), some (.int x5), none, none, none] [] s (.inl none, o) := by
  unfold dm224_12 at h
  obtain ⟨d, rfl⟩ : ∃ e, d = e + 1 := ⟨d - 1, by omega⟩
  refine Q.run zm224 2 (i' := 15) (ls' := [some (.ref 121), some (.int x1), some (.int x2), some (.int x3), some (.int x4), some (.int x5), none, none, none]) (st' := [.int 1]) rfl ?_
  exact dt224_15 hd hl  h
def dm224 (x1 : Int32) (x2 : Int32) (x3 : Int32) (x4 : Int32) (x5 : Int32) (s : aS) : Option (aS) :=
  if x2 < (-1048576) then
    dm224_12 x1 x2 x3 x4 x5 s
  else
    if 1048576 < x2 then
      dm224_12 x1 x2 x3 x4 x5 s
    else
      if x3 < (-1048576) then
        dm224_12 x1 x2 x3 x4 x5 s
      else
        if x3 ≤ 1048576 then
          dm224_15 x1 x2 x3 x4 x5 0 s
        else
          dm224_12 x1 x2 x3 x4 x5 s
set_option maxRecDepth 100000 in
theorem dt224 {sio : Bool} {tt : Nat} {cc : Nat → Nat → Int32} {d : Nat} (hd : 2 ≤ d) {x1 : Int32} {x2 : Int32} {x3 : Int32} {x4 : Int32} {x5 : Int32} {s : aS} (hl : Ly tt cc s) {o : aS} (h : dm224  x1 x2 x3 x4 x5 s = some o) : Q 2 sio tt cc d 224 0 [some (.ref 121), some (.int x1), some (.int x2), some (.int x3), some (.int x4), some (.int x5), none, none, none] [] s (.inl none, o) := by
  unfold dm224 at h
  obtain ⟨d, rfl⟩ : ∃ e, d = e + 1 := ⟨d - 1, by omega⟩
  refine Q.run zm224 2 (i' := 2) (ls' := [some (.ref 121), some (.int x1), some (.int x2), some (.int x3), some (.int x4), some (.int x5), none, none, none]) (st' := [.int (-1048576), .int x2]) rfl ?_
  by_cases hc1 : x2 < (-1048576)
  · rw [if_pos hc1] at h
    refine Q.map (A.bT (gI_of zm224 (e := (4, 3, .if_icmp .lt 22, [12])) rfl) (decide_eq_true hc1)) ?_
    exact dt224_12 hd hl  h
  · rw [if_neg hc1] at h
    refine Q.map (A.bF (gI_of zm224 (e := (4, 3, .if_icmp .lt 22, [12])) rfl) (fun q => hc1 (of_decide_eq_true q))) ?_
    refine Q.run zm224 2 (i' := 5) (ls' := [some (.ref 121), some (.int x1), some (.int x2), some (.int x3), some (.int x4), some (.int x5), none, none, none]) (st' := [.int 1048576, .int x2]) rfl ?_
    by_cases hc2 : 1048576 < x2
    · rw [if_pos hc2] at h
      refine Q.map (A.bT (gI_of zm224 (e := (10, 3, .if_icmp .gt 16, [12])) rfl) (decide_eq_true hc2)) ?_
      exact dt224_12 hd hl  h
    · rw [if_neg hc2] at h
      refine Q.map (A.bF (gI_of zm224 (e := (10, 3, .if_icmp .gt 16, [12])) rfl) (fun q => hc2 (of_decide_eq_true q))) ?_
      refine Q.run zm224 2 (i' := 8) (ls' := [some (.ref 121), some (.int x1), some (.int x2), some (.int x3), some (.int x4), some (.int x5), none, none, none]) (st' := [.int (-1048576), .int x3]) rfl ?_
      by_cases hc3 : x3 < (-1048576)
      · rw [if_pos hc3] at h
        refine Q.map (A.bT (gI_of zm224 (e := (17, 3, .if_icmp .lt 9, [12])) rfl) (decide_eq_true hc3)) ?_
        exact dt224_12 hd hl  h
      · rw [if_neg hc3] at h
        refine Q.map (A.bF (gI_of zm224 (e := (17, 3, .if_icmp .lt 9, [12])) rfl) (fun q => hc3 (of_decide_eq_true q))) ?_
        refine Q.run zm224 2 (i' := 11) (ls' := [some (.ref 121), some (.int x1), some (.int x2), some (.int x3), some (.int x4), some (.int x5), none, none, none]) (st' := [.int 1048576, .int x3]) rfl ?_
        by_cases hc4 : x3 ≤ 1048576
        · rw [if_pos hc4] at h
          refine Q.map (A.bT (gI_of zm224 (e := (23, 3, .if_icmp .le 7, [14])) rfl) (decide_eq_true hc4)) ?_
          refine Q.run zm224 1 (i' := 15) (ls' := [some (.ref 121), some (.int x1), some (.int x2), some (.int x3), some (.int x4), some (.int x5), none, none, none]) (st' := [.int 0]) rfl ?_
          exact dt224_15 hd hl  h
        · rw [if_neg hc4] at h
          refine Q.map (A.bF (gI_of zm224 (e := (23, 3, .if_icmp .le 7, [14])) rfl) (fun q => hc4 (of_decide_eq_true q))) ?_
          exact dt224_12 hd hl  h
/-! 135 FormulaTrees$Tree.takeOut(IZII)Z -/
set_option maxRecDepth 100000 in
theorem zm135 : zP[135]? = some zM135 := rfl
def dm135_68 (x6 : Int32) (x8 : Int32) (c0 : Nat) (y1 : Int32) (y2 : Int32) (s : aS) : Option (Int32 × aS) :=
  bu (dm60 c0 y1 y2 x6 s) fun s3 =>
  if x8 = 0 ∨ x8 = 1 then
    some (x8, s3)
  else none
set_option maxRecDepth 100000 in
theorem dt135_68 {sio : Bool} {tt : Nat} {cc : Nat → Nat → Int32} {d : Nat} (hd : 1 ≤ d) {x6 : Int32} {x8 : Int32} {c0 : Nat} {y1 : Int32} {y2 : Int32} {b0 : Nat} {x1 : Int32} {x2 : Int32} {x3 : Int32} {x4 : Int32} {x5 : Int32} {x7 : Int32} {s : aS} (hl : Ly tt cc s) (hk_c0 : aK s c0 3) {o : Int32 × aS} (h : dm135_68  x6 x8 c0 y1 y2 s = some o) : Q 1 sio tt cc d 135 68 [some (.ref b0), some (.int x1), some (.int x2), some (.int x3), some (.int x4), some (.int x5), some (.int x6), some (.int x7), some (.int x8)] [.int y2, .int y1, .ref c0] s (.inl (some (.int o.1)), o.2) := by
  unfold dm135_68 at h
  obtain ⟨d, rfl⟩ : ∃ e, d = e + 1 := ⟨d - 1, by omega⟩
  refine Q.run zm135 1 (i' := 69) (ls' := [some (.ref b0), some (.int x1), some (.int x2), some (.int x3), some (.int x4), some (.int x5), some (.int x6), some (.int x7), some (.int x8)]) (st' := [.int x6, .int y2, .int y1, .ref c0]) rfl ?_
  obtain ⟨s3, hc2, h⟩ := bu_so h
  have hq1 : Q 1 sio tt cc d 60 0 [some (.ref c0), some (.int y1), some (.int y2), some (.int x6)] [] s (.inl none, s3) := dt60 (by omega) hl hk_c0 hc2
  refine Q.callV (gC_vi zm135 (show zM135.2.2.2.2.2[69]? = some (125, 3, .invokevirtual 51, [0, 60, 3, 3]) from rfl) zm60 hk_c0.1 (hl.tr hk_c0).1 rfl (show aCr 3 c0 [.int x6, .int y2, .int y1, .ref c0] 4 = some ([some (.ref c0), some (.int y1), some (.int y2), some (.int x6)], []) from rfl)) hq1 ?_
  have hr4 : aK s3 c0 3 := hq1.2.1.k hk_c0
  refine Q.run zm135 1 (i' := 71) (ls' := [some (.ref b0), some (.int x1), some (.int x2), some (.int x3), some (.int x4), some (.int x5), some (.int x6), some (.int x7), some (.int x8)]) (st' := [.int x8]) rfl ?_
  obtain ⟨hc5, h⟩ := ite_so h
  cases h
  exact Q.ret (A.ri zm135 (show zM135.2.2.2.2.2[71]? = some (130, 1, .ireturn, []) from rfl) rfl (fit1 hc5)) hq1.1
def dm135_59 (b0 : Nat) (x1 : Int32) (x2 : Int32) (x5 : Int32) (x6 : Int32) (x8 : Int32) (c0 : Nat) (y1 : Int32) (y2 : Int32) (s : aS) : Option (Int32 × aS) :=
  bu (dm60 c0 y1 y2 x5 s) fun s3 =>
  if x2 = 0 then
    dm135_68 x6 x8 b0 x1 6 s3
  else
    dm135_68 x6 x8 b0 x1 5 s3
set_option maxRecDepth 100000 in
theorem dt135_59 {sio : Bool} {tt : Nat} {cc : Nat → Nat → Int32} {d : Nat} (hd : 1 ≤ d) {b0 : Nat} {x1 : Int32} {x2 : Int32} {x5 : Int32} {x6 : Int32} {x8 : Int32} {c0 : Nat} {y1 : Int32} {y2 : Int32} {x3 : Int32} {x4 : Int32} {x7 : Int32} {s : aS} (hl : Ly tt cc s) (hk_b0 : aK s b0 3) (hk_c0 : aK s c0 3) {o : Int32 × aS} (h : dm135_59  b0 x1 x2 x5 x6 x8 c0 y1 y2 s = some o) : Q 1 sio tt cc d 135 59 [some (.ref b0), some (.int x1), some (.int x2), some (.int x3), some (.int x4), some (.int x5), some (.int x6), some (.int x7), some (.int x8)] [.int y2, .int y1, .ref c0] s (.inl (some (.int o.1)), o.2) := by
  unfold dm135_59 at h
  obtain ⟨d, rfl⟩ : ∃ e, d = e + 1 := ⟨d - 1, by omega⟩
  refine Q.run zm135 1 (i' := 60) (ls' := [some (.ref b0), some (.int x1), some (.int x2), some (.int x3), some (.int x4), some (.int x5), some (.int x6), some (.int x7), some (.int x8)]) (st' := [.int x5, .int y2, .int y1, .ref c0]) rfl ?_
  obtain ⟨s3, hc2, h⟩ := bu_so h
  have hq1 : Q 1 sio tt cc d 60 0 [some (.ref c0), some (.int y1), some (.int y2), some (.int x5)] [] s (.inl none, s3) := dt60 (by omega) hl hk_c0 hc2
  refine Q.callV (gC_vi zm135 (show zM135.2.2.2.2.2[60]? = some (108, 3, .invokevirtual 51, [0, 60, 3, 3]) from rfl) zm60 hk_c0.1 (hl.tr hk_c0).1 rfl (show aCr 3 c0 [.int x5, .int y2, .int y1, .ref c0] 4 = some ([some (.ref c0), some (.int y1), some (.int y2), some (.int x5)], []) from rfl)) hq1 ?_
  have hr4 : aK s3 b0 3 := hq1.2.1.k hk_b0
  have hr5 : aK s3 c0 3 := hq1.2.1.k hk_c0
  refine Q.run zm135 3 (i' := 64) (ls' := [some (.ref b0), some (.int x1), some (.int x2), some (.int x3), some (.int x4), some (.int x5), some (.int x6), some (.int x7), some (.int x8)]) (st' := [.int x2, .int x1, .ref b0]) rfl ?_
  by_cases hc6 : x2 = 0
  · rw [if_pos hc6] at h
    refine Q.map (A.zT (gI_of zm135 (e := (114, 3, .ifCond .eq 7, [67])) rfl) (decide_eq_true hc6)) ?_
    refine Q.run zm135 1 (i' := 68) (ls' := [some (.ref b0), some (.int x1), some (.int x2), some (.int x3), some (.int x4), some (.int x5), some (.int x6), some (.int x7), some (.int x8)]) (st' := [.int 6, .int x1, .ref b0]) rfl ?_
    exact dt135_68 hd hq1.1 hr4 h
  · rw [if_neg hc6] at h
    refine Q.map (A.zF (gI_of zm135 (e := (114, 3, .ifCond .eq 7, [67])) rfl) (fun q => hc6 (of_decide_eq_true q))) ?_
    refine Q.run zm135 2 (i' := 68) (ls' := [some (.ref b0), some (.int x1), some (.int x2), some (.int x3), some (.int x4), some (.int x5), some (.int x6), some (.int x7), some (.int x8)]) (st' := [.int 5, .int x1, .ref b0]) rfl ?_
    exact dt135_68 hd hq1.1 hr4 h
def dm135_52 (b0 : Nat) (x1 : Int32) (x2 : Int32) (x5 : Int32) (x6 : Int32) (x8 : Int32) (s : aS) : Option (Int32 × aS) :=
  if x2 = 0 then
    dm135_59 b0 x1 x2 x5 x6 x8 b0 x1 4 s
  else
    dm135_59 b0 x1 x2 x5 x6 x8 b0 x1 3 s
set_option maxRecDepth 100000 in
theorem dt135_52 {sio : Bool} {tt : Nat} {cc : Nat → Nat → Int32} {d : Nat} (hd : 1 ≤ d) {b0 : Nat} {x1 : Int32} {x2 : Int32} {x5 : Int32} {x6 : Int32} {x8 : Int32} {x3 : Int32} {x4 : Int32} {x7 : Int32} {s : aS} (hl : Ly tt cc s) (hk_b0 : aK s b0 3) {o : Int32 × aS} (h : dm135_52  b0 x1 x2 x5 x6 x8 s = some o) : Q 1 sio tt cc d 135 52 [some (.ref b0), some (.int x1), some (.int x2), some (.int x3), some (.int x4), some (.int x5), some (.int x6), some (.int x7), some (.int x8)] [] s (.inl (some (.int o.1)), o.2) := by
  unfold dm135_52 at h
  obtain ⟨d, rfl⟩ : ∃ e, d = e + 1 := ⟨d - 1, by omega⟩
  refine Q.run zm135 3 (i' := 55) (ls' := [some (.ref b0), some (.int x1), some (.int x2), some (.int x3), some (.int x4), some (.int x5), some (.int x6), some (.int x7), some (.int x8)]) (st' := [.int x2, .int x1, .ref b0]) rfl ?_
  by_cases hc1 : x2 = 0
  · rw [if_pos hc1] at h
    refine Q.map (A.zT (gI_of zm135 (e := (98, 3, .ifCond .eq 7, [58])) rfl) (decide_eq_true hc1)) ?_
    refine Q.run zm135 1 (i' := 59) (ls' := [some (.ref b0), some (.int x1), some (.int x2), some (.int x3), some (.int x4), some (.int x5), some (.int x6), some (.int x7), some (.int x8)]) (st' := [.int 4, .int x1, .ref b0]) rfl ?_
    exact dt135_59 hd hl hk_b0 hk_b0 h
  · rw [if_neg hc1] at h
    refine Q.map (A.zF (gI_of zm135 (e := (98, 3, .ifCond .eq 7, [58])) rfl) (fun q => hc1 (of_decide_eq_true q))) ?_
    refine Q.run zm135 2 (i' := 59) (ls' := [some (.ref b0), some (.int x1), some (.int x2), some (.int x3), some (.int x4), some (.int x5), some (.int x6), some (.int x7), some (.int x8)]) (st' := [.int 3, .int x1, .ref b0]) rfl ?_
    exact dt135_59 hd hl hk_b0 hk_b0 h
def dm135_41 (b0 : Nat) (x1 : Int32) (x2 : Int32) (x3 : Int32) (x4 : Int32) (x5 : Int32) (x6 : Int32) (x8 : Int32) (s : aS) : Option (Int32 × aS) :=
  if x6 < x3 then
    dm135_52 b0 x1 x2 x5 x6 x8 s
  else
    dm135_52 b0 x1 x2 x5 (if (x6 - x4) < (x3 - 1) then (x3 - 1) else (x6 - x4)) x8 s
set_option maxRecDepth 100000 in
theorem dt135_41 {sio : Bool} {tt : Nat} {cc : Nat → Nat → Int32} {d : Nat} (hd : 1 ≤ d) {b0 : Nat} {x1 : Int32} {x2 : Int32} {x3 : Int32} {x4 : Int32} {x5 : Int32} {x6 : Int32} {x8 : Int32} {x7 : Int32} {s : aS} (hl : Ly tt cc s) (hk_b0 : aK s b0 3) {o : Int32 × aS} (h : dm135_41  b0 x1 x2 x3 x4 x5 x6 x8 s = some o) : Q 1 sio tt cc d 135 41 [some (.ref b0), some (.int x1), some (.int x2), some (.int x3), some (.int x4), some (.int x5), some (.int x6), some (.int x7), some (.int x8)] [] s (.inl (some (.int o.1)), o.2) := by
  unfold dm135_41 at h
  obtain ⟨d, rfl⟩ : ∃ e, d = e + 1 := ⟨d - 1, by omega⟩
  refine Q.run zm135 2 (i' := 43) (ls' := [some (.ref b0), some (.int x1), some (.int x2), some (.int x3), some (.int x4), some (.int x5), some (.int x6), some (.int x7), some (.int x8)]) (st' := [.int x3, .int x6]) rfl ?_
  by_cases hc1 : x6 < x3
  · rw [if_pos hc1] at h
    refine Q.map (A.bT (gI_of zm135 (e := (79, 3, .if_icmp .lt 16, [52])) rfl) (decide_eq_true hc1)) ?_
    exact dt135_52 hd hl hk_b0 h
  · rw [if_neg hc1] at h
    refine Q.map (A.bF (gI_of zm135 (e := (79, 3, .if_icmp .lt 16, [52])) rfl) (fun q => hc1 (of_decide_eq_true q))) ?_
    refine Q.run zm135 6 (i' := 50) (ls' := [some (.ref b0), some (.int x1), some (.int x2), some (.int x3), some (.int x4), some (.int x5), some (.int x6), some (.int x7), some (.int x8)]) (st' := [.int (x3 - 1), .int (x6 - x4)]) rfl ?_
    refine Q.map (A.mx zm135 (eq_true (show 0 ≤ 8 by decide)) (show zM135.2.2.2.2.2[50]? = some (90, 3, .invokestatic 122, [3]) from rfl)) ?_
    refine Q.run zm135 1 (i' := 52) (ls' := [some (.ref b0), some (.int x1), some (.int x2), some (.int x3), some (.int x4), some (.int x5), some (.int (if (x6 - x4) < (x3 - 1) then (x3 - 1) else (x6 - x4))), some (.int x7), some (.int x8)]) (st' := []) rfl ?_
    exact dt135_52 hd hl hk_b0 h
def dm135_31 (b0 : Nat) (x1 : Int32) (x2 : Int32) (x3 : Int32) (x4 : Int32) (x5 : Int32) (x6 : Int32) (y0 : Int32) (s : aS) : Option (Int32 × aS) :=
  if x5 < x3 then
    dm135_41 b0 x1 x2 x3 x4 x5 x6 y0 s
  else
    dm135_41 b0 x1 x2 x3 x4 (if (x5 - x4) < x3 then x3 else (x5 - x4)) x6 y0 s
set_option maxRecDepth 100000 in
theorem dt135_31 {sio : Bool} {tt : Nat} {cc : Nat → Nat → Int32} {d : Nat} (hd : 1 ≤ d) {b0 : Nat} {x1 : Int32} {x2 : Int32} {x3 : Int32} {x4 : Int32} {x5 : Int32} {x6 : Int32} {y0 : Int32} {x7 : Int32} {s : aS} (hl : Ly tt cc s) (hk_b0 : aK s b0 3) {o : Int32 × aS} (h : dm135_31  b0 x1 x2 x3 x4 x5 x6 y0 s = some o) : Q 1 sio tt cc d 135 31 [some (.ref b0), some (.int x1), some (.int x2), some (.int x3), some (.int x4), some (.int x5), some (.int x6), some (.int x7), none] [.int y0] s (.inl (some (.int o.1)), o.2) := by
  unfold dm135_31 at h
  obtain ⟨d, rfl⟩ : ∃ e, d = e + 1 := ⟨d - 1, by omega⟩
  refine Q.run zm135 3 (i' := 34) (ls' := [some (.ref b0), some (.int x1), some (.int x2), some (.int x3), some (.int x4), some (.int x5), some (.int x6), some (.int x7), some (.int y0)]) (st' := [.int x3, .int x5]) rfl ?_
  by_cases hc1 : x5 < x3
  · rw [if_pos hc1] at h
    refine Q.map (A.bT (gI_of zm135 (e := (62, 3, .if_icmp .lt 14, [41])) rfl) (decide_eq_true hc1)) ?_
    exact dt135_41 hd hl hk_b0 h
  · rw [if_neg hc1] at h
    refine Q.map (A.bF (gI_of zm135 (e := (62, 3, .if_icmp .lt 14, [41])) rfl) (fun q => hc1 (of_decide_eq_true q))) ?_
    refine Q.run zm135 4 (i' := 39) (ls' := [some (.ref b0), some (.int x1), some (.int x2), some (.int x3), some (.int x4), some (.int x5), some (.int x6), some (.int x7), some (.int y0)]) (st' := [.int x3, .int (x5 - x4)]) rfl ?_
    refine Q.map (A.mx zm135 (eq_true (show 0 ≤ 8 by decide)) (show zM135.2.2.2.2.2[39]? = some (71, 3, .invokestatic 122, [3]) from rfl)) ?_
    refine Q.run zm135 1 (i' := 41) (ls' := [some (.ref b0), some (.int x1), some (.int x2), some (.int x3), some (.int x4), some (.int (if (x5 - x4) < x3 then x3 else (x5 - x4))), some (.int x6), some (.int x7), some (.int y0)]) (st' := []) rfl ?_
    exact dt135_41 hd hl hk_b0 h
def dm135_28 (b0 : Nat) (x1 : Int32) (x2 : Int32) (x3 : Int32) (x4 : Int32) (x5 : Int32) (x6 : Int32) (s : aS) : Option (Int32 × aS) :=
  dm135_31 b0 x1 x2 x3 x4 x5 x6 1 s
set_option maxRecDepth 100000 in
theorem dt135_28 {sio : Bool} {tt : Nat} {cc : Nat → Nat → Int32} {d : Nat} (hd : 1 ≤ d) {b0 : Nat} {x1 : Int32} {x2 : Int32} {x3 : Int32} {x4 : Int32} {x5 : Int32} {x6 : Int32} {x7 : Int32} {s : aS} (hl : Ly tt cc s) (hk_b0 : aK s b0 3) {o : Int32 × aS} (h : dm135_28  b0 x1 x2 x3 x4 x5 x6 s = some o) : Q 1 sio tt cc d 135 28 [some (.ref b0), some (.int x1), some (.int x2), some (.int x3), some (.int x4), some (.int x5), some (.int x6), some (.int x7), none] [] s (.inl (some (.int o.1)), o.2) := by
  unfold dm135_28 at h
  obtain ⟨d, rfl⟩ : ∃ e, d = e + 1 := ⟨d - 1, by omega⟩
  refine Q.run zm135 2 (i' := 31) (ls' := [some (.ref b0), some (.int x1), some (.int x2), some (.int x3), some (.int x4), some (.int x5), some (.int x6), some (.int x7), none]) (st' := [.int 1]) rfl ?_
  exact dt135_31 hd hl hk_b0 h
def dm135_16 (b0 : Nat) (x1 : Int32) (x2 : Int32) (x3 : Int32) (x4 : Int32) (x5 : Int32) (c0 : Nat) (y1 : Int32) (y2 : Int32) (s : aS) : Option (Int32 × aS) :=
  bu (dm57 c0 y1 y2 s) fun r3 =>
  if x5 < x3 then
    dm135_28 b0 x1 x2 x3 x4 x5 r3 s
  else
    if r3 < (x3 + x4) then
      dm135_31 b0 x1 x2 x3 x4 x5 r3 0 s
    else
      dm135_28 b0 x1 x2 x3 x4 x5 r3 s
set_option maxRecDepth 100000 in
theorem dt135_16 {sio : Bool} {tt : Nat} {cc : Nat → Nat → Int32} {d : Nat} (hd : 1 ≤ d) {b0 : Nat} {x1 : Int32} {x2 : Int32} {x3 : Int32} {x4 : Int32} {x5 : Int32} {c0 : Nat} {y1 : Int32} {y2 : Int32} {s : aS} (hl : Ly tt cc s) (hk_b0 : aK s b0 3) (hk_c0 : aK s c0 3) {o : Int32 × aS} (h : dm135_16  b0 x1 x2 x3 x4 x5 c0 y1 y2 s = some o) : Q 1 sio tt cc d 135 16 [some (.ref b0), some (.int x1), some (.int x2), some (.int x3), some (.int x4), some (.int x5), none, none, none] [.int y2, .int y1, .ref c0] s (.inl (some (.int o.1)), o.2) := by
  unfold dm135_16 at h
  obtain ⟨d, rfl⟩ : ∃ e, d = e + 1 := ⟨d - 1, by omega⟩
  obtain ⟨r3, hc2, h⟩ := bu_so h
  have hq1 : Q 1 sio tt cc d 57 0 [some (.ref c0), some (.int y1), some (.int y2), none] [] s (.inl (some (.int r3)), s) := dt57 (by omega) hl hk_c0 hc2
  refine Q.callI (gC_vi zm135 (show zM135.2.2.2.2.2[16]? = some (28, 3, .invokevirtual 28, [0, 57, 2, 3]) from rfl) zm57 hk_c0.1 (hl.tr hk_c0).1 rfl (show aCr 2 c0 [.int y2, .int y1, .ref c0] 4 = some ([some (.ref c0), some (.int y1), some (.int y2), none], []) from rfl)) hq1 ?_
  refine Q.run zm135 7 (i' := 24) (ls' := [some (.ref b0), some (.int x1), some (.int x2), some (.int x3), some (.int x4), some (.int x5), some (.int r3), some (.int (x3 + x4)), none]) (st' := [.int x3, .int x5]) rfl ?_
  by_cases hc4 : x5 < x3
  · rw [if_pos hc4] at h
    refine Q.map (A.bT (gI_of zm135 (e := (42, 3, .if_icmp .lt 10, [28])) rfl) (decide_eq_true hc4)) ?_
    exact dt135_28 hd hl hk_b0 h
  · rw [if_neg hc4] at h
    refine Q.map (A.bF (gI_of zm135 (e := (42, 3, .if_icmp .lt 10, [28])) rfl) (fun q => hc4 (of_decide_eq_true q))) ?_
    refine Q.run zm135 2 (i' := 27) (ls' := [some (.ref b0), some (.int x1), some (.int x2), some (.int x3), some (.int x4), some (.int x5), some (.int r3), some (.int (x3 + x4)), none]) (st' := [.int (x3 + x4), .int r3]) rfl ?_
    by_cases hc5 : r3 < (x3 + x4)
    · rw [if_pos hc5] at h
      refine Q.map (A.bT (gI_of zm135 (e := (49, 3, .if_icmp .lt 7, [30])) rfl) (decide_eq_true hc5)) ?_
      refine Q.run zm135 1 (i' := 31) (ls' := [some (.ref b0), some (.int x1), some (.int x2), some (.int x3), some (.int x4), some (.int x5), some (.int r3), some (.int (x3 + x4)), none]) (st' := [.int 0]) rfl ?_
      exact dt135_31 hd hl hk_b0 h
    · rw [if_neg hc5] at h
      refine Q.map (A.bF (gI_of zm135 (e := (49, 3, .if_icmp .lt 7, [30])) rfl) (fun q => hc5 (of_decide_eq_true q))) ?_
      exact dt135_28 hd hl hk_b0 h
def dm135_7 (b0 : Nat) (x1 : Int32) (x2 : Int32) (x3 : Int32) (x4 : Int32) (c0 : Nat) (y1 : Int32) (y2 : Int32) (s : aS) : Option (Int32 × aS) :=
  bu (dm57 c0 y1 y2 s) fun r3 =>
  if x2 = 0 then
    dm135_16 b0 x1 x2 x3 x4 r3 b0 x1 6 s
  else
    dm135_16 b0 x1 x2 x3 x4 r3 b0 x1 5 s
set_option maxRecDepth 100000 in
theorem dt135_7 {sio : Bool} {tt : Nat} {cc : Nat → Nat → Int32} {d : Nat} (hd : 1 ≤ d) {b0 : Nat} {x1 : Int32} {x2 : Int32} {x3 : Int32} {x4 : Int32} {c0 : Nat} {y1 : Int32} {y2 : Int32} {s : aS} (hl : Ly tt cc s) (hk_b0 : aK s b0 3) (hk_c0 : aK s c0 3) {o : Int32 × aS} (h : dm135_7  b0 x1 x2 x3 x4 c0 y1 y2 s = some o) : Q 1 sio tt cc d 135 7 [some (.ref b0), some (.int x1), some (.int x2), some (.int x3), some (.int x4), none, none, none, none] [.int y2, .int y1, .ref c0] s (.inl (some (.int o.1)), o.2) := by
  unfold dm135_7 at h
  obtain ⟨d, rfl⟩ : ∃ e, d = e + 1 := ⟨d - 1, by omega⟩
  obtain ⟨r3, hc2, h⟩ := bu_so h
  have hq1 : Q 1 sio tt cc d 57 0 [some (.ref c0), some (.int y1), some (.int y2), none] [] s (.inl (some (.int r3)), s) := dt57 (by omega) hl hk_c0 hc2
  refine Q.callI (gC_vi zm135 (show zM135.2.2.2.2.2[7]? = some (11, 3, .invokevirtual 28, [0, 57, 2, 3]) from rfl) zm57 hk_c0.1 (hl.tr hk_c0).1 rfl (show aCr 2 c0 [.int y2, .int y1, .ref c0] 4 = some ([some (.ref c0), some (.int y1), some (.int y2), none], []) from rfl)) hq1 ?_
  refine Q.run zm135 4 (i' := 12) (ls' := [some (.ref b0), some (.int x1), some (.int x2), some (.int x3), some (.int x4), some (.int r3), none, none, none]) (st' := [.int x2, .int x1, .ref b0]) rfl ?_
  by_cases hc4 : x2 = 0
  · rw [if_pos hc4] at h
    refine Q.map (A.zT (gI_of zm135 (e := (19, 3, .ifCond .eq 7, [15])) rfl) (decide_eq_true hc4)) ?_
    refine Q.run zm135 1 (i' := 16) (ls' := [some (.ref b0), some (.int x1), some (.int x2), some (.int x3), some (.int x4), some (.int r3), none, none, none]) (st' := [.int 6, .int x1, .ref b0]) rfl ?_
    exact dt135_16 hd hl hk_b0 hk_b0 h
  · rw [if_neg hc4] at h
    refine Q.map (A.zF (gI_of zm135 (e := (19, 3, .ifCond .eq 7, [15])) rfl) (fun q => hc4 (of_decide_eq_true q))) ?_
    refine Q.run zm135 2 (i' := 16) (ls' := [some (.ref b0), some (.int x1), some (.int x2), some (.int x3), some (.int x4), some (.int r3), none, none, none]) (st' := [.int 5, .int x1, .ref b0]) rfl ?_
    exact dt135_16 hd hl hk_b0 hk_b0 h
def dm135 (b0 : Nat) (x1 : Int32) (x2 : Int32) (x3 : Int32) (x4 : Int32) (s : aS) : Option (Int32 × aS) :=
  if x2 = 0 then
    dm135_7 b0 x1 x2 x3 x4 b0 x1 4 s
  else
    dm135_7 b0 x1 x2 x3 x4 b0 x1 3 s
set_option maxRecDepth 100000 in
theorem dt135 {sio : Bool} {tt : Nat} {cc : Nat → Nat → Int32} {d : Nat} (hd : 1 ≤ d) {b0 : Nat} {x1 : Int32} {x2 : Int32} {x3 : Int32} {x4 : Int32} {s : aS} (hl : Ly tt cc s) (hk_b0 : aK s b0 3) {o : Int32 × aS} (h : dm135  b0 x1 x2 x3 x4 s = some o) : Q 1 sio tt cc d 135 0 [some (.ref b0), some (.int x1), some (.int x2), some (.int x3), some (.int x4), none, none, none, none] [] s (.inl (some (.int o.1)), o.2) := by
  unfold dm135 at h
  obtain ⟨d, rfl⟩ : ∃ e, d = e + 1 := ⟨d - 1, by omega⟩
  refine Q.run zm135 3 (i' := 3) (ls' := [some (.ref b0), some (.int x1), some (.int x2), some (.int x3), some (.int x4), none, none, none, none]) (st' := [.int x2, .int x1, .ref b0]) rfl ?_
  by_cases hc1 : x2 = 0
  · rw [if_pos hc1] at h
    refine Q.map (A.zT (gI_of zm135 (e := (3, 3, .ifCond .eq 7, [6])) rfl) (decide_eq_true hc1)) ?_
    refine Q.run zm135 1 (i' := 7) (ls' := [some (.ref b0), some (.int x1), some (.int x2), some (.int x3), some (.int x4), none, none, none, none]) (st' := [.int 4, .int x1, .ref b0]) rfl ?_
    exact dt135_7 hd hl hk_b0 hk_b0 h
  · rw [if_neg hc1] at h
    refine Q.map (A.zF (gI_of zm135 (e := (3, 3, .ifCond .eq 7, [6])) rfl) (fun q => hc1 (of_decide_eq_true q))) ?_
    refine Q.run zm135 2 (i' := 7) (ls' := [some (.ref b0), some (.int x1), some (.int x2), some (.int x3), some (.int x4), none, none, none, none]) (st' := [.int 3, .int x1, .ref b0]) rfl ?_
    exact dt135_7 hd hl hk_b0 hk_b0 h
/-! 136 FormulaTrees$Tree.putIn(IZII)Z -/
set_option maxRecDepth 100000 in
theorem zm136 : zP[136]? = some zM136 := rfl
def dm136_52 (x2 : Int32) (x5 : Int32) (x6 : Int32) (c0 : Nat) (y1 : Int32) (y2 : Int32) (s : aS) : Option (Int32 × aS) :=
  bu (dm132 x2) fun r3 =>
  bu (dm60 c0 y1 y2 (if r3 < x6 then r3 else x6) s) fun s6 =>
  bu (dm132 x2) fun r10 =>
  if r10 < x5 then
    some (0, s6)
  else
    some (1, s6)
set_option maxRecDepth 100000 in
theorem dt136_52 {sio : Bool} {tt : Nat} {cc : Nat → Nat → Int32} {d : Nat} (hd : 1 ≤ d) {x2 : Int32} {x5 : Int32} {x6 : Int32} {c0 : Nat} {y1 : Int32} {y2 : Int32} {b0 : Nat} {x1 : Int32} {x3 : Int32} {x4 : Int32} {s : aS} (hl : Ly tt cc s) (hk_c0 : aK s c0 3) {o : Int32 × aS} (h : dm136_52  x2 x5 x6 c0 y1 y2 s = some o) : Q 1 sio tt cc d 136 52 [some (.ref b0), some (.int x1), some (.int x2), some (.int x3), some (.int x4), some (.int x5), some (.int x6)] [.int y2, .int y1, .ref c0] s (.inl (some (.int o.1)), o.2) := by
  unfold dm136_52 at h
  obtain ⟨d, rfl⟩ : ∃ e, d = e + 1 := ⟨d - 1, by omega⟩
  refine Q.run zm136 2 (i' := 54) (ls' := [some (.ref b0), some (.int x1), some (.int x2), some (.int x3), some (.int x4), some (.int x5), some (.int x6)]) (st' := [.int x2, .int x6, .int y2, .int y1, .ref c0]) rfl ?_
  obtain ⟨r3, hc2, h⟩ := bu_so h
  have hq1 : Q 1 sio tt cc d 132 0 [some (.int x2)] [] s (.inl (some (.int r3)), s) := dt132 (by omega) hl  hc2
  refine Q.callI (gC_st zm136 (show zM136.2.2.2.2.2[54]? = some (98, 3, .invokestatic 106, [0, 132, 1]) from rfl) zm132 (show aC 1 [.int x2, .int x6, .int y2, .int y1, .ref c0] 1 = some ([some (.int x2)], [.int x6, .int y2, .int y1, .ref c0]) from rfl)) hq1 ?_
  refine Q.map (A.mn zm136 (eq_true (show 3 ≤ 8 by decide)) (show zM136.2.2.2.2.2[55]? = some (101, 3, .invokestatic 117, [4]) from rfl)) ?_
  obtain ⟨s6, hc5, h⟩ := bu_so h
  have hq4 : Q 1 sio tt cc d 60 0 [some (.ref c0), some (.int y1), some (.int y2), some (.int (if r3 < x6 then r3 else x6))] [] s (.inl none, s6) := dt60 (by omega) hl hk_c0 hc5
  refine Q.callV (gC_vi zm136 (show zM136.2.2.2.2.2[56]? = some (104, 3, .invokevirtual 51, [0, 60, 3, 3]) from rfl) zm60 hk_c0.1 (hl.tr hk_c0).1 rfl (show aCr 3 c0 [.int (if r3 < x6 then r3 else x6), .int y2, .int y1, .ref c0] 4 = some ([some (.ref c0), some (.int y1), some (.int y2), some (.int (if r3 < x6 then r3 else x6))], []) from rfl)) hq4 ?_
  have hr7 : aK s6 c0 3 := hq4.2.1.k hk_c0
  refine Q.run zm136 2 (i' := 59) (ls' := [some (.ref b0), some (.int x1), some (.int x2), some (.int x3), some (.int x4), some (.int x5), some (.int x6)]) (st' := [.int x2, .int x5]) rfl ?_
  obtain ⟨r10, hc9, h⟩ := bu_so h
  have hq8 : Q 1 sio tt cc d 132 0 [some (.int x2)] [] s6 (.inl (some (.int r10)), s6) := dt132 (by omega) hq4.1  hc9
  refine Q.callI (gC_st zm136 (show zM136.2.2.2.2.2[59]? = some (110, 3, .invokestatic 106, [0, 132, 1]) from rfl) zm132 (show aC 1 [.int x2, .int x5] 1 = some ([some (.int x2)], [.int x5]) from rfl)) hq8 ?_
  by_cases hc11 : r10 < x5
  · rw [if_pos hc11] at h
    refine Q.map (A.bT (gI_of zm136 (e := (113, 3, .if_icmp .gt 7, [63])) rfl) (decide_eq_true hc11)) ?_
    refine Q.run zm136 1 (i' := 64) (ls' := [some (.ref b0), some (.int x1), some (.int x2), some (.int x3), some (.int x4), some (.int x5), some (.int x6)]) (st' := [.int 0]) rfl ?_
    cases h
    exact Q.ret (A.ri zm136 (show zM136.2.2.2.2.2[64]? = some (121, 1, .ireturn, []) from rfl) rfl rfl) hq4.1
  · rw [if_neg hc11] at h
    refine Q.map (A.bF (gI_of zm136 (e := (113, 3, .if_icmp .gt 7, [63])) rfl) (fun q => hc11 (of_decide_eq_true q))) ?_
    refine Q.run zm136 2 (i' := 64) (ls' := [some (.ref b0), some (.int x1), some (.int x2), some (.int x3), some (.int x4), some (.int x5), some (.int x6)]) (st' := [.int 1]) rfl ?_
    cases h
    exact Q.ret (A.ri zm136 (show zM136.2.2.2.2.2[64]? = some (121, 1, .ireturn, []) from rfl) rfl rfl) hq4.1
def dm136_43 (b0 : Nat) (x1 : Int32) (x2 : Int32) (x5 : Int32) (x6 : Int32) (c0 : Nat) (y1 : Int32) (y2 : Int32) (s : aS) : Option (Int32 × aS) :=
  bu (dm60 c0 y1 y2 x5 s) fun s3 =>
  if x2 = 0 then
    dm136_52 x2 x5 x6 b0 x1 6 s3
  else
    dm136_52 x2 x5 x6 b0 x1 5 s3
set_option maxRecDepth 100000 in
theorem dt136_43 {sio : Bool} {tt : Nat} {cc : Nat → Nat → Int32} {d : Nat} (hd : 1 ≤ d) {b0 : Nat} {x1 : Int32} {x2 : Int32} {x5 : Int32} {x6 : Int32} {c0 : Nat} {y1 : Int32} {y2 : Int32} {x3 : Int32} {x4 : Int32} {s : aS} (hl : Ly tt cc s) (hk_b0 : aK s b0 3) (hk_c0 : aK s c0 3) {o : Int32 × aS} (h : dm136_43  b0 x1 x2 x5 x6 c0 y1 y2 s = some o) : Q 1 sio tt cc d 136 43 [some (.ref b0), some (.int x1), some (.int x2), some (.int x3), some (.int x4), some (.int x5), some (.int x6)] [.int y2, .int y1, .ref c0] s (.inl (some (.int o.1)), o.2) := by
  unfold dm136_43 at h
  obtain ⟨d, rfl⟩ : ∃ e, d = e + 1 := ⟨d - 1, by omega⟩
  refine Q.run zm136 1 (i' := 44) (ls' := [some (.ref b0), some (.int x1), some (.int x2), some (.int x3), some (.int x4), some (.int x5), some (.int x6)]) (st' := [.int x5, .int y2, .int y1, .ref c0]) rfl ?_
  obtain ⟨s3, hc2, h⟩ := bu_so h
  have hq1 : Q 1 sio tt cc d 60 0 [some (.ref c0), some (.int y1), some (.int y2), some (.int x5)] [] s (.inl none, s3) := dt60 (by omega) hl hk_c0 hc2
  refine Q.callV (gC_vi zm136 (show zM136.2.2.2.2.2[44]? = some (80, 3, .invokevirtual 51, [0, 60, 3, 3]) from rfl) zm60 hk_c0.1 (hl.tr hk_c0).1 rfl (show aCr 3 c0 [.int x5, .int y2, .int y1, .ref c0] 4 = some ([some (.ref c0), some (.int y1), some (.int y2), some (.int x5)], []) from rfl)) hq1 ?_
  have hr4 : aK s3 b0 3 := hq1.2.1.k hk_b0
  have hr5 : aK s3 c0 3 := hq1.2.1.k hk_c0
  refine Q.run zm136 3 (i' := 48) (ls' := [some (.ref b0), some (.int x1), some (.int x2), some (.int x3), some (.int x4), some (.int x5), some (.int x6)]) (st' := [.int x2, .int x1, .ref b0]) rfl ?_
  by_cases hc6 : x2 = 0
  · rw [if_pos hc6] at h
    refine Q.map (A.zT (gI_of zm136 (e := (86, 3, .ifCond .eq 7, [51])) rfl) (decide_eq_true hc6)) ?_
    refine Q.run zm136 1 (i' := 52) (ls' := [some (.ref b0), some (.int x1), some (.int x2), some (.int x3), some (.int x4), some (.int x5), some (.int x6)]) (st' := [.int 6, .int x1, .ref b0]) rfl ?_
    exact dt136_52 hd hq1.1 hr4 h
  · rw [if_neg hc6] at h
    refine Q.map (A.zF (gI_of zm136 (e := (86, 3, .ifCond .eq 7, [51])) rfl) (fun q => hc6 (of_decide_eq_true q))) ?_
    refine Q.run zm136 2 (i' := 52) (ls' := [some (.ref b0), some (.int x1), some (.int x2), some (.int x3), some (.int x4), some (.int x5), some (.int x6)]) (st' := [.int 5, .int x1, .ref b0]) rfl ?_
    exact dt136_52 hd hq1.1 hr4 h
def dm136_34 (b0 : Nat) (x1 : Int32) (x2 : Int32) (x5 : Int32) (y0 : Int32) (y1 : Int32) (s : aS) : Option (Int32 × aS) :=
  if x2 = 0 then
    dm136_43 b0 x1 x2 x5 (y0 + y1) b0 x1 4 s
  else
    dm136_43 b0 x1 x2 x5 (y0 + y1) b0 x1 3 s
set_option maxRecDepth 100000 in
theorem dt136_34 {sio : Bool} {tt : Nat} {cc : Nat → Nat → Int32} {d : Nat} (hd : 1 ≤ d) {b0 : Nat} {x1 : Int32} {x2 : Int32} {x5 : Int32} {y0 : Int32} {y1 : Int32} {x3 : Int32} {x4 : Int32} {x6 : Int32} {s : aS} (hl : Ly tt cc s) (hk_b0 : aK s b0 3) {o : Int32 × aS} (h : dm136_34  b0 x1 x2 x5 y0 y1 s = some o) : Q 1 sio tt cc d 136 34 [some (.ref b0), some (.int x1), some (.int x2), some (.int x3), some (.int x4), some (.int x5), some (.int x6)] [.int y1, .int y0] s (.inl (some (.int o.1)), o.2) := by
  unfold dm136_34 at h
  obtain ⟨d, rfl⟩ : ∃ e, d = e + 1 := ⟨d - 1, by omega⟩
  refine Q.run zm136 5 (i' := 39) (ls' := [some (.ref b0), some (.int x1), some (.int x2), some (.int x3), some (.int x4), some (.int x5), some (.int (y0 + y1))]) (st' := [.int x2, .int x1, .ref b0]) rfl ?_
  by_cases hc1 : x2 = 0
  · rw [if_pos hc1] at h
    refine Q.map (A.zT (gI_of zm136 (e := (70, 3, .ifCond .eq 7, [42])) rfl) (decide_eq_true hc1)) ?_
    refine Q.run zm136 1 (i' := 43) (ls' := [some (.ref b0), some (.int x1), some (.int x2), some (.int x3), some (.int x4), some (.int x5), some (.int (y0 + y1))]) (st' := [.int 4, .int x1, .ref b0]) rfl ?_
    exact dt136_43 hd hl hk_b0 hk_b0 h
  · rw [if_neg hc1] at h
    refine Q.map (A.zF (gI_of zm136 (e := (70, 3, .ifCond .eq 7, [42])) rfl) (fun q => hc1 (of_decide_eq_true q))) ?_
    refine Q.run zm136 2 (i' := 43) (ls' := [some (.ref b0), some (.int x1), some (.int x2), some (.int x3), some (.int x4), some (.int x5), some (.int (y0 + y1))]) (st' := [.int 3, .int x1, .ref b0]) rfl ?_
    exact dt136_43 hd hl hk_b0 hk_b0 h
def dm136_25 (b0 : Nat) (x1 : Int32) (x2 : Int32) (x3 : Int32) (x4 : Int32) (x6 : Int32) (y0 : Int32) (y1 : Int32) (s : aS) : Option (Int32 × aS) :=
  if x6 < x3 then
    dm136_34 b0 x1 x2 (y0 + y1) x6 0 s
  else
    dm136_34 b0 x1 x2 (y0 + y1) x6 x4 s
set_option maxRecDepth 100000 in
theorem dt136_25 {sio : Bool} {tt : Nat} {cc : Nat → Nat → Int32} {d : Nat} (hd : 1 ≤ d) {b0 : Nat} {x1 : Int32} {x2 : Int32} {x3 : Int32} {x4 : Int32} {x6 : Int32} {y0 : Int32} {y1 : Int32} {x5 : Int32} {s : aS} (hl : Ly tt cc s) (hk_b0 : aK s b0 3) {o : Int32 × aS} (h : dm136_25  b0 x1 x2 x3 x4 x6 y0 y1 s = some o) : Q 1 sio tt cc d 136 25 [some (.ref b0), some (.int x1), some (.int x2), some (.int x3), some (.int x4), some (.int x5), some (.int x6)] [.int y1, .int y0] s (.inl (some (.int o.1)), o.2) := by
  unfold dm136_25 at h
  obtain ⟨d, rfl⟩ : ∃ e, d = e + 1 := ⟨d - 1, by omega⟩
  refine Q.run zm136 5 (i' := 30) (ls' := [some (.ref b0), some (.int x1), some (.int x2), some (.int x3), some (.int x4), some (.int (y0 + y1)), some (.int x6)]) (st' := [.int x3, .int x6, .int x6]) rfl ?_
  by_cases hc1 : x6 < x3
  · rw [if_pos hc1] at h
    refine Q.map (A.bT (gI_of zm136 (e := (55, 3, .if_icmp .lt 8, [33])) rfl) (decide_eq_true hc1)) ?_
    refine Q.run zm136 1 (i' := 34) (ls' := [some (.ref b0), some (.int x1), some (.int x2), some (.int x3), some (.int x4), some (.int (y0 + y1)), some (.int x6)]) (st' := [.int 0, .int x6]) rfl ?_
    exact dt136_34 hd hl hk_b0 h
  · rw [if_neg hc1] at h
    refine Q.map (A.bF (gI_of zm136 (e := (55, 3, .if_icmp .lt 8, [33])) rfl) (fun q => hc1 (of_decide_eq_true q))) ?_
    refine Q.run zm136 2 (i' := 34) (ls' := [some (.ref b0), some (.int x1), some (.int x2), some (.int x3), some (.int x4), some (.int (y0 + y1)), some (.int x6)]) (st' := [.int x4, .int x6]) rfl ?_
    exact dt136_34 hd hl hk_b0 h
def dm136_16 (b0 : Nat) (x1 : Int32) (x2 : Int32) (x3 : Int32) (x4 : Int32) (x5 : Int32) (c0 : Nat) (y1 : Int32) (y2 : Int32) (s : aS) : Option (Int32 × aS) :=
  bu (dm57 c0 y1 y2 s) fun r3 =>
  if x5 < x3 then
    dm136_25 b0 x1 x2 x3 x4 r3 x5 0 s
  else
    dm136_25 b0 x1 x2 x3 x4 r3 x5 x4 s
set_option maxRecDepth 100000 in
theorem dt136_16 {sio : Bool} {tt : Nat} {cc : Nat → Nat → Int32} {d : Nat} (hd : 1 ≤ d) {b0 : Nat} {x1 : Int32} {x2 : Int32} {x3 : Int32} {x4 : Int32} {x5 : Int32} {c0 : Nat} {y1 : Int32} {y2 : Int32} {s : aS} (hl : Ly tt cc s) (hk_b0 : aK s b0 3) (hk_c0 : aK s c0 3) {o : Int32 × aS} (h : dm136_16  b0 x1 x2 x3 x4 x5 c0 y1 y2 s = some o) : Q 1 sio tt cc d 136 16 [some (.ref b0), some (.int x1), some (.int x2), some (.int x3), some (.int x4), some (.int x5), none] [.int y2, .int y1, .ref c0] s (.inl (some (.int o.1)), o.2) := by
  unfold dm136_16 at h
  obtain ⟨d, rfl⟩ : ∃ e, d = e + 1 := ⟨d - 1, by omega⟩
  obtain ⟨r3, hc2, h⟩ := bu_so h
  have hq1 : Q 1 sio tt cc d 57 0 [some (.ref c0), some (.int y1), some (.int y2), none] [] s (.inl (some (.int r3)), s) := dt57 (by omega) hl hk_c0 hc2
  refine Q.callI (gC_vi zm136 (show zM136.2.2.2.2.2[16]? = some (28, 3, .invokevirtual 28, [0, 57, 2, 3]) from rfl) zm57 hk_c0.1 (hl.tr hk_c0).1 rfl (show aCr 2 c0 [.int y2, .int y1, .ref c0] 4 = some ([some (.ref c0), some (.int y1), some (.int y2), none], []) from rfl)) hq1 ?_
  refine Q.run zm136 4 (i' := 21) (ls' := [some (.ref b0), some (.int x1), some (.int x2), some (.int x3), some (.int x4), some (.int x5), some (.int r3)]) (st' := [.int x3, .int x5, .int x5]) rfl ?_
  by_cases hc4 : x5 < x3
  · rw [if_pos hc4] at h
    refine Q.map (A.bT (gI_of zm136 (e := (38, 3, .if_icmp .lt 8, [24])) rfl) (decide_eq_true hc4)) ?_
    refine Q.run zm136 1 (i' := 25) (ls' := [some (.ref b0), some (.int x1), some (.int x2), some (.int x3), some (.int x4), some (.int x5), some (.int r3)]) (st' := [.int 0, .int x5]) rfl ?_
    exact dt136_25 hd hl hk_b0 h
  · rw [if_neg hc4] at h
    refine Q.map (A.bF (gI_of zm136 (e := (38, 3, .if_icmp .lt 8, [24])) rfl) (fun q => hc4 (of_decide_eq_true q))) ?_
    refine Q.run zm136 2 (i' := 25) (ls' := [some (.ref b0), some (.int x1), some (.int x2), some (.int x3), some (.int x4), some (.int x5), some (.int r3)]) (st' := [.int x4, .int x5]) rfl ?_
    exact dt136_25 hd hl hk_b0 h
def dm136_7 (b0 : Nat) (x1 : Int32) (x2 : Int32) (x3 : Int32) (x4 : Int32) (c0 : Nat) (y1 : Int32) (y2 : Int32) (s : aS) : Option (Int32 × aS) :=
  bu (dm57 c0 y1 y2 s) fun r3 =>
  if x2 = 0 then
    dm136_16 b0 x1 x2 x3 x4 r3 b0 x1 6 s
  else
    dm136_16 b0 x1 x2 x3 x4 r3 b0 x1 5 s
set_option maxRecDepth 100000 in
theorem dt136_7 {sio : Bool} {tt : Nat} {cc : Nat → Nat → Int32} {d : Nat} (hd : 1 ≤ d) {b0 : Nat} {x1 : Int32} {x2 : Int32} {x3 : Int32} {x4 : Int32} {c0 : Nat} {y1 : Int32} {y2 : Int32} {s : aS} (hl : Ly tt cc s) (hk_b0 : aK s b0 3) (hk_c0 : aK s c0 3) {o : Int32 × aS} (h : dm136_7  b0 x1 x2 x3 x4 c0 y1 y2 s = some o) : Q 1 sio tt cc d 136 7 [some (.ref b0), some (.int x1), some (.int x2), some (.int x3), some (.int x4), none, none] [.int y2, .int y1, .ref c0] s (.inl (some (.int o.1)), o.2) := by
  unfold dm136_7 at h
  obtain ⟨d, rfl⟩ : ∃ e, d = e + 1 := ⟨d - 1, by omega⟩
  obtain ⟨r3, hc2, h⟩ := bu_so h
  have hq1 : Q 1 sio tt cc d 57 0 [some (.ref c0), some (.int y1), some (.int y2), none] [] s (.inl (some (.int r3)), s) := dt57 (by omega) hl hk_c0 hc2
  refine Q.callI (gC_vi zm136 (show zM136.2.2.2.2.2[7]? = some (11, 3, .invokevirtual 28, [0, 57, 2, 3]) from rfl) zm57 hk_c0.1 (hl.tr hk_c0).1 rfl (show aCr 2 c0 [.int y2, .int y1, .ref c0] 4 = some ([some (.ref c0), some (.int y1), some (.int y2), none], []) from rfl)) hq1 ?_
  refine Q.run zm136 4 (i' := 12) (ls' := [some (.ref b0), some (.int x1), some (.int x2), some (.int x3), some (.int x4), some (.int r3), none]) (st' := [.int x2, .int x1, .ref b0]) rfl ?_
  by_cases hc4 : x2 = 0
  · rw [if_pos hc4] at h
    refine Q.map (A.zT (gI_of zm136 (e := (19, 3, .ifCond .eq 7, [15])) rfl) (decide_eq_true hc4)) ?_
    refine Q.run zm136 1 (i' := 16) (ls' := [some (.ref b0), some (.int x1), some (.int x2), some (.int x3), some (.int x4), some (.int r3), none]) (st' := [.int 6, .int x1, .ref b0]) rfl ?_
    exact dt136_16 hd hl hk_b0 hk_b0 h
  · rw [if_neg hc4] at h
    refine Q.map (A.zF (gI_of zm136 (e := (19, 3, .ifCond .eq 7, [15])) rfl) (fun q => hc4 (of_decide_eq_true q))) ?_
    refine Q.run zm136 2 (i' := 16) (ls' := [some (.ref b0), some (.int x1), some (.int x2), some (.int x3), some (.int x4), some (.int r3), none]) (st' := [.int 5, .int x1, .ref b0]) rfl ?_
    exact dt136_16 hd hl hk_b0 hk_b0 h
def dm136 (b0 : Nat) (x1 : Int32) (x2 : Int32) (x3 : Int32) (x4 : Int32) (s : aS) : Option (Int32 × aS) :=
  if x2 = 0 then
    dm136_7 b0 x1 x2 x3 x4 b0 x1 4 s
  else
    dm136_7 b0 x1 x2 x3 x4 b0 x1 3 s
set_option maxRecDepth 100000 in
theorem dt136 {sio : Bool} {tt : Nat} {cc : Nat → Nat → Int32} {d : Nat} (hd : 1 ≤ d) {b0 : Nat} {x1 : Int32} {x2 : Int32} {x3 : Int32} {x4 : Int32} {s : aS} (hl : Ly tt cc s) (hk_b0 : aK s b0 3) {o : Int32 × aS} (h : dm136  b0 x1 x2 x3 x4 s = some o) : Q 1 sio tt cc d 136 0 [some (.ref b0), some (.int x1), some (.int x2), some (.int x3), some (.int x4), none, none] [] s (.inl (some (.int o.1)), o.2) := by
  unfold dm136 at h
  obtain ⟨d, rfl⟩ : ∃ e, d = e + 1 := ⟨d - 1, by omega⟩
  refine Q.run zm136 3 (i' := 3) (ls' := [some (.ref b0), some (.int x1), some (.int x2), some (.int x3), some (.int x4), none, none]) (st' := [.int x2, .int x1, .ref b0]) rfl ?_
  by_cases hc1 : x2 = 0
  · rw [if_pos hc1] at h
    refine Q.map (A.zT (gI_of zm136 (e := (3, 3, .ifCond .eq 7, [6])) rfl) (decide_eq_true hc1)) ?_
    refine Q.run zm136 1 (i' := 7) (ls' := [some (.ref b0), some (.int x1), some (.int x2), some (.int x3), some (.int x4), none, none]) (st' := [.int 4, .int x1, .ref b0]) rfl ?_
    exact dt136_7 hd hl hk_b0 hk_b0 h
  · rw [if_neg hc1] at h
    refine Q.map (A.zF (gI_of zm136 (e := (3, 3, .ifCond .eq 7, [6])) rfl) (fun q => hc1 (of_decide_eq_true q))) ?_
    refine Q.run zm136 2 (i' := 7) (ls' := [some (.ref b0), some (.int x1), some (.int x2), some (.int x3), some (.int x4), none, none]) (st' := [.int 3, .int x1, .ref b0]) rfl ?_
    exact dt136_7 hd hl hk_b0 hk_b0 h
/-! 134 FormulaTrees$Tree.shiftOn(IZZII)I -/
set_option maxRecDepth 100000 in
theorem zm134 : zP[134]? = some zM134 := rfl
def dm134_48 (k4 : Nat → Int32 → Int32 → Int32 → Int32 → Int32 → Int32 → Int32 → aS → Option (Int32 × aS)) (b0 : Nat) (x1 : Int32) (x2 : Int32) (x3 : Int32) (x4 : Int32) (x5 : Int32) (x6 : Int32) (x7 : Int32) (s : aS) : Option (Int32 × aS) :=
  k4 b0 x1 x2 x3 x4 x5 x6 (x7 + 1) s
set_option maxRecDepth 100000 in
theorem dt134_48 {sio : Bool} {tt : Nat} {cc : Nat → Nat → Int32} {d : Nat} (hd : 2 ≤ d) {k4 : Nat → Int32 → Int32 → Int32 → Int32 → Int32 → Int32 → Int32 → aS → Option (Int32 × aS)} (hk4 : ∀ {b0 : Nat} {x1 : Int32} {x2 : Int32} {x3 : Int32} {x4 : Int32} {x5 : Int32} {x6 : Int32} {x7 : Int32} {g8 : Option Value} {g9 : Option Value} {s : aS}, Ly tt cc s → aK s b0 3 → ∀ {o : Int32 × aS}, k4 b0 x1 x2 x3 x4 x5 x6 x7 s = some o → Q 1 sio tt cc d 134 4 [some (.ref b0), some (.int x1), some (.int x2), some (.int x3), some (.int x4), some (.int x5), some (.int x6), some (.int x7), g8, g9] [] s (.inl (some (.int o.1)), o.2)) {b0 : Nat} {x1 : Int32} {x2 : Int32} {x3 : Int32} {x4 : Int32} {x5 : Int32} {x6 : Int32} {x7 : Int32} {x8 : Int32} {g9 : Option Value} {s : aS} (hl : Ly tt cc s) (hk_b0 : aK s b0 3) {o : Int32 × aS} (h : dm134_48 k4 b0 x1 x2 x3 x4 x5 x6 x7 s = some o) : Q 1 sio tt cc d 134 48 [some (.ref b0), some (.int x1), some (.int x2), some (.int x3), some (.int x4), some (.int x5), some (.int x6), some (.int x7), some (.int x8), g9] [] s (.inl (some (.int o.1)), o.2) := by
  unfold dm134_48 at h
  obtain ⟨d, rfl⟩ : ∃ e, d = e + 1 := ⟨d - 1, by omega⟩
  refine Q.run zm134 2 (i' := 4) (ls' := [some (.ref b0), some (.int x1), some (.int x2), some (.int x3), some (.int x4), some (.int x5), some (.int x6), some (.int (x7 + 1)), some (.int x8), g9]) (st' := []) rfl ?_
  exact hk4 hl hk_b0 h
def dm134_41 (k4 : Nat → Int32 → Int32 → Int32 → Int32 → Int32 → Int32 → Int32 → aS → Option (Int32 × aS)) (b0 : Nat) (x1 : Int32) (x2 : Int32) (x3 : Int32) (x4 : Int32) (x5 : Int32) (x6 : Int32) (x7 : Int32) (y0 : Int32) (s : aS) : Option (Int32 × aS) :=
  if y0 = 0 then
    bu (dm58 b0 x7 s) fun s4 =>
    dm134_48 k4 b0 x1 x2 x3 x4 x5 (x6 + 1) x7 s4
  else
    dm134_48 k4 b0 x1 x2 x3 x4 x5 x6 x7 s
set_option maxRecDepth 100000 in
theorem dt134_41 {sio : Bool} {tt : Nat} {cc : Nat → Nat → Int32} {d : Nat} (hd : 2 ≤ d) {k4 : Nat → Int32 → Int32 → Int32 → Int32 → Int32 → Int32 → Int32 → aS → Option (Int32 × aS)} (hk4 : ∀ {b0 : Nat} {x1 : Int32} {x2 : Int32} {x3 : Int32} {x4 : Int32} {x5 : Int32} {x6 : Int32} {x7 : Int32} {g8 : Option Value} {g9 : Option Value} {s : aS}, Ly tt cc s → aK s b0 3 → ∀ {o : Int32 × aS}, k4 b0 x1 x2 x3 x4 x5 x6 x7 s = some o → Q 1 sio tt cc d 134 4 [some (.ref b0), some (.int x1), some (.int x2), some (.int x3), some (.int x4), some (.int x5), some (.int x6), some (.int x7), g8, g9] [] s (.inl (some (.int o.1)), o.2)) {b0 : Nat} {x1 : Int32} {x2 : Int32} {x3 : Int32} {x4 : Int32} {x5 : Int32} {x6 : Int32} {x7 : Int32} {y0 : Int32} {x8 : Int32} {g9 : Option Value} {s : aS} (hl : Ly tt cc s) (hk_b0 : aK s b0 3) {o : Int32 × aS} (h : dm134_41 k4 b0 x1 x2 x3 x4 x5 x6 x7 y0 s = some o) : Q 1 sio tt cc d 134 41 [some (.ref b0), some (.int x1), some (.int x2), some (.int x3), some (.int x4), some (.int x5), some (.int x6), some (.int x7), some (.int x8), g9] [.int y0] s (.inl (some (.int o.1)), o.2) := by
  unfold dm134_41 at h
  obtain ⟨d, rfl⟩ : ∃ e, d = e + 1 := ⟨d - 1, by omega⟩
  refine Q.run zm134 2 (i' := 43) (ls' := [some (.ref b0), some (.int x1), some (.int x2), some (.int x3), some (.int x4), some (.int x5), some (.int x6), some (.int x7), some (.int x8), some (.int y0)]) (st' := [.int y0]) rfl ?_
  by_cases hc1 : y0 = 0
  · rw [if_pos hc1] at h
    refine Q.map (A.zF (gI_of zm134 (e := (84, 3, .ifCond .ne 12, [48])) rfl) (fun q => of_decide_eq_true q hc1)) ?_
    refine Q.run zm134 2 (i' := 46) (ls' := [some (.ref b0), some (.int x1), some (.int x2), some (.int x3), some (.int x4), some (.int x5), some (.int x6), some (.int x7), some (.int x8), some (.int y0)]) (st' := [.int x7, .ref b0]) rfl ?_
    obtain ⟨s4, hc3, h⟩ := bu_so h
    have hq2 : Q 1 sio tt cc d 58 0 [some (.ref b0), some (.int x7)] [] s (.inl none, s4) := dt58 (by omega) hl hk_b0 hc3
    refine Q.callV (gC_vi zm134 (show zM134.2.2.2.2.2[46]? = some (90, 3, .invokevirtual 92, [0, 58, 1, 3]) from rfl) zm58 hk_b0.1 (hl.tr hk_b0).1 rfl (show aCr 1 b0 [.int x7, .ref b0] 2 = some ([some (.ref b0), some (.int x7)], []) from rfl)) hq2 ?_
    have hr5 : aK s4 b0 3 := hq2.2.1.k hk_b0
    refine Q.run zm134 1 (i' := 48) (ls' := [some (.ref b0), some (.int x1), some (.int x2), some (.int x3), some (.int x4), some (.int x5), some (.int (x6 + 1)), some (.int x7), some (.int x8), some (.int y0)]) (st' := []) rfl ?_
    exact dt134_48 hd hk4 hq2.1 hr5 h
  · rw [if_neg hc1] at h
    refine Q.map (A.zT (gI_of zm134 (e := (84, 3, .ifCond .ne 12, [48])) rfl) (decide_eq_true hc1)) ?_
    exact dt134_48 hd hk4 hl hk_b0 h
def dm134_25 (k4 : Nat → Int32 → Int32 → Int32 → Int32 → Int32 → Int32 → Int32 → aS → Option (Int32 × aS)) (b0 : Nat) (x1 : Int32) (x2 : Int32) (x3 : Int32) (x4 : Int32) (x5 : Int32) (x6 : Int32) (x7 : Int32) (s : aS) : Option (Int32 × aS) :=
  if 0 ≤ x5 then
    bv (dm136 b0 x7 x3 x4 x5 s) fun r5 s4 =>
    dm134_41 k4 b0 x1 x2 x3 x4 x5 x6 x7 r5 s4
  else
    bv (dm135 b0 x7 x3 x4 (-x5) s) fun r10 s9 =>
    dm134_41 k4 b0 x1 x2 x3 x4 x5 x6 x7 r10 s9
set_option maxRecDepth 100000 in
theorem dt134_25 {sio : Bool} {tt : Nat} {cc : Nat → Nat → Int32} {d : Nat} (hd : 2 ≤ d) {k4 : Nat → Int32 → Int32 → Int32 → Int32 → Int32 → Int32 → Int32 → aS → Option (Int32 × aS)} (hk4 : ∀ {b0 : Nat} {x1 : Int32} {x2 : Int32} {x3 : Int32} {x4 : Int32} {x5 : Int32} {x6 : Int32} {x7 : Int32} {g8 : Option Value} {g9 : Option Value} {s : aS}, Ly tt cc s → aK s b0 3 → ∀ {o : Int32 × aS}, k4 b0 x1 x2 x3 x4 x5 x6 x7 s = some o → Q 1 sio tt cc d 134 4 [some (.ref b0), some (.int x1), some (.int x2), some (.int x3), some (.int x4), some (.int x5), some (.int x6), some (.int x7), g8, g9] [] s (.inl (some (.int o.1)), o.2)) {b0 : Nat} {x1 : Int32} {x2 : Int32} {x3 : Int32} {x4 : Int32} {x5 : Int32} {x6 : Int32} {x7 : Int32} {x8 : Int32} {g9 : Option Value} {s : aS} (hl : Ly tt cc s) (hk_b0 : aK s b0 3) {o : Int32 × aS} (h : dm134_25 k4 b0 x1 x2 x3 x4 x5 x6 x7 s = some o) : Q 1 sio tt cc d 134 25 [some (.ref b0), some (.int x1), some (.int x2), some (.int x3), some (.int x4), some (.int x5), some (.int x6), some (.int x7), some (.int x8), g9] [] s (.inl (some (.int o.1)), o.2) := by
  unfold dm134_25 at h
  obtain ⟨d, rfl⟩ : ∃ e, d = e + 1 := ⟨d - 1, by omega⟩
  refine Q.run zm134 1 (i' := 26) (ls' := [some (.ref b0), some (.int x1), some (.int x2), some (.int x3), some (.int x4), some (.int x5), some (.int x6), some (.int x7), some (.int x8), g9]) (st' := [.int x5]) rfl ?_
  by_cases hc1 : 0 ≤ x5
  · rw [if_pos hc1] at h
    refine Q.map (A.zT (gI_of zm134 (e := (51, 3, .ifCond .ge 18, [35])) rfl) (decide_eq_true hc1)) ?_
    refine Q.run zm134 5 (i' := 40) (ls' := [some (.ref b0), some (.int x1), some (.int x2), some (.int x3), some (.int x4), some (.int x5), some (.int x6), some (.int x7), some (.int x8), g9]) (st' := [.int x5, .int x4, .int x3, .int x7, .ref b0]) rfl ?_
    obtain ⟨r5, s4, hc3, h⟩ := bv_so h
    have hq2 : Q 1 sio tt cc d 136 0 [some (.ref b0), some (.int x7), some (.int x3), some (.int x4), some (.int x5), none, none] [] s (.inl (some (.int r5)), s4) := dt136 (by omega) hl hk_b0 hc3
    refine Q.callI (gC_vi zm134 (show zM134.2.2.2.2.2[40]? = some (77, 3, .invokevirtual 114, [0, 136, 4, 3]) from rfl) zm136 hk_b0.1 (hl.tr hk_b0).1 rfl (show aCr 4 b0 [.int x5, .int x4, .int x3, .int x7, .ref b0] 7 = some ([some (.ref b0), some (.int x7), some (.int x3), some (.int x4), some (.int x5), none, none], []) from rfl)) hq2 ?_
    have hr6 : aK s4 b0 3 := hq2.2.1.k hk_b0
    exact dt134_41 hd hk4 hq2.1 hr6 h
  · rw [if_neg hc1] at h
    refine Q.map (A.zF (gI_of zm134 (e := (51, 3, .ifCond .ge 18, [35])) rfl) (fun q => hc1 (of_decide_eq_true q))) ?_
    refine Q.run zm134 6 (i' := 33) (ls' := [some (.ref b0), some (.int x1), some (.int x2), some (.int x3), some (.int x4), some (.int x5), some (.int x6), some (.int x7), some (.int x8), g9]) (st' := [.int (-x5), .int x4, .int x3, .int x7, .ref b0]) rfl ?_
    obtain ⟨r10, s9, hc8, h⟩ := bv_so h
    have hq7 : Q 1 sio tt cc d 135 0 [some (.ref b0), some (.int x7), some (.int x3), some (.int x4), some (.int (-x5)), none, none, none, none] [] s (.inl (some (.int r10)), s9) := dt135 (by omega) hl hk_b0 hc8
    refine Q.callI (gC_vi zm134 (show zM134.2.2.2.2.2[33]? = some (63, 3, .invokevirtual 110, [0, 135, 4, 3]) from rfl) zm135 hk_b0.1 (hl.tr hk_b0).1 rfl (show aCr 4 b0 [.int (-x5), .int x4, .int x3, .int x7, .ref b0] 9 = some ([some (.ref b0), some (.int x7), some (.int x3), some (.int x4), some (.int (-x5)), none, none, none, none], []) from rfl)) hq7 ?_
    have hr11 : aK s9 b0 3 := hq7.2.1.k hk_b0
    refine Q.run zm134 1 (i' := 41) (ls' := [some (.ref b0), some (.int x1), some (.int x2), some (.int x3), some (.int x4), some (.int x5), some (.int x6), some (.int x7), some (.int x8), g9]) (st' := [.int r10]) rfl ?_
    exact dt134_41 hd hk4 hq7.1 hr11 h
def dm134_4 : Nat → Nat → Int32 → Int32 → Int32 → Int32 → Int32 → Int32 → Int32 → aS → Option (Int32 × aS)
  | 0, _, _, _, _, _, _, _, _, _ => none
  | n + 1, b0, x1, x2, x3, x4, x5, x6, x7, s =>
    if (sI s b0 2) ≤ x7 then
      some (x6, s)
    else
      bu (dm57 b0 x7 2 s) fun r4 =>
      bu (dm129 b0 x7 s) fun r7 =>
      if r7 = 0 then
        dm134_48 (dm134_4 n) b0 x1 x2 x3 x4 x5 x6 x7 s
      else
        if r4 = x1 then
          dm134_25 (dm134_4 n) b0 x1 x2 x3 x4 x5 x6 x7 s
        else
          if r4 = (-1) then
            if x2 = 0 then
              dm134_48 (dm134_4 n) b0 x1 x2 x3 x4 x5 x6 x7 s
            else
              dm134_25 (dm134_4 n) b0 x1 x2 x3 x4 x5 x6 x7 s
          else
            dm134_48 (dm134_4 n) b0 x1 x2 x3 x4 x5 x6 x7 s
set_option maxRecDepth 100000 in
theorem dt134_4 {sio : Bool} {tt : Nat} {cc : Nat → Nat → Int32} {d : Nat} (hd : 2 ≤ d) : ∀ (n : Nat) {b0 : Nat} {x1 : Int32} {x2 : Int32} {x3 : Int32} {x4 : Int32} {x5 : Int32} {x6 : Int32} {x7 : Int32} {g8 : Option Value} {g9 : Option Value} {s : aS} (_ : Ly tt cc s) (_ : aK s b0 3) {o : Int32 × aS} (_ : dm134_4  n b0 x1 x2 x3 x4 x5 x6 x7 s = some o), Q 1 sio tt cc d 134 4 [some (.ref b0), some (.int x1), some (.int x2), some (.int x3), some (.int x4), some (.int x5), some (.int x6), some (.int x7), g8, g9] [] s (.inl (some (.int o.1)), o.2) := by
  obtain ⟨d, rfl⟩ : ∃ e, d = e + 1 := ⟨d - 1, by omega⟩
  intro n
  induction n with
  | zero => intro b0 x1 x2 x3 x4 x5 x6 x7 g8 g9 s hl hk_b0 o h; rw [dm134_4] at h; cases h
  | succ n ih =>
    intro b0 x1 x2 x3 x4 x5 x6 x7 g8 g9 s hl hk_b0 o h
    rw [dm134_4] at h
    refine Q.run zm134 2 (i' := 6) (ls' := [some (.ref b0), some (.int x1), some (.int x2), some (.int x3), some (.int x4), some (.int x5), some (.int x6), some (.int x7), g8, g9]) (st' := [.ref b0, .int x7]) rfl ?_
    refine Q.map (A.gf (gI_of zm134 (e := (9, 3, .getfield 24, [3, 2])) rfl) hk_b0.1 (hl.tr hk_b0).1 (by decide) rfl) ?_
    by_cases hc1 : (sI s b0 2) ≤ x7
    · rw [if_pos hc1] at h
      refine Q.map (A.bT (gI_of zm134 (e := (12, 3, .if_icmp .ge 90, [50])) rfl) (decide_eq_true hc1)) ?_
      refine Q.run zm134 1 (i' := 51) (ls' := [some (.ref b0), some (.int x1), some (.int x2), some (.int x3), some (.int x4), some (.int x5), some (.int x6), some (.int x7), g8, g9]) (st' := [.int x6]) rfl ?_
      cases h
      exact Q.ret (A.ri zm134 (show zM134.2.2.2.2.2[51]? = some (104, 1, .ireturn, []) from rfl) rfl rfl) hl
    · rw [if_neg hc1] at h
      refine Q.map (A.bF (gI_of zm134 (e := (12, 3, .if_icmp .ge 90, [50])) rfl) (fun q => hc1 (of_decide_eq_true q))) ?_
      refine Q.run zm134 3 (i' := 11) (ls' := [some (.ref b0), some (.int x1), some (.int x2), some (.int x3), some (.int x4), some (.int x5), some (.int x6), some (.int x7), g8, g9]) (st' := [.int 2, .int x7, .ref b0]) rfl ?_
      obtain ⟨r4, hc3, h⟩ := bu_so h
      have hq2 : Q 1 sio tt cc d 57 0 [some (.ref b0), some (.int x7), some (.int 2), none] [] s (.inl (some (.int r4)), s) := dt57 (by omega) hl hk_b0 hc3
      refine Q.callI (gC_vi zm134 (show zM134.2.2.2.2.2[11]? = some (19, 3, .invokevirtual 28, [0, 57, 2, 3]) from rfl) zm57 hk_b0.1 (hl.tr hk_b0).1 rfl (show aCr 2 b0 [.int 2, .int x7, .ref b0] 4 = some ([some (.ref b0), some (.int x7), some (.int 2), none], []) from rfl)) hq2 ?_
      refine Q.run zm134 3 (i' := 15) (ls' := [some (.ref b0), some (.int x1), some (.int x2), some (.int x3), some (.int x4), some (.int x5), some (.int x6), some (.int x7), some (.int r4), g9]) (st' := [.int x7, .ref b0]) rfl ?_
      obtain ⟨r7, hc6, h⟩ := bu_so h
      have hq5 : Q 1 sio tt cc d 129 0 [some (.ref b0), some (.int x7)] [] s (.inl (some (.int r7)), s) := dt129 (by omega) hl hk_b0 hc6
      refine Q.callI (gC_vi zm134 (show zM134.2.2.2.2.2[15]? = some (27, 3, .invokevirtual 95, [0, 129, 1, 3]) from rfl) zm129 hk_b0.1 (hl.tr hk_b0).1 rfl (show aCr 1 b0 [.int x7, .ref b0] 2 = some ([some (.ref b0), some (.int x7)], []) from rfl)) hq5 ?_
      by_cases hc8 : r7 = 0
      · rw [if_pos hc8] at h
        refine Q.map (A.zT (gI_of zm134 (e := (30, 3, .ifCond .eq 66, [48])) rfl) (decide_eq_true hc8)) ?_
        exact dt134_48 hd ih hl hk_b0 h
      · rw [if_neg hc8] at h
        refine Q.map (A.zF (gI_of zm134 (e := (30, 3, .ifCond .eq 66, [48])) rfl) (fun q => hc8 (of_decide_eq_true q))) ?_
        refine Q.run zm134 2 (i' := 19) (ls' := [some (.ref b0), some (.int x1), some (.int x2), some (.int x3), some (.int x4), some (.int x5), some (.int x6), some (.int x7), some (.int r4), g9]) (st' := [.int x1, .int r4]) rfl ?_
        by_cases hc9 : r4 = x1
        · rw [if_pos hc9] at h
          refine Q.map (A.bT (gI_of zm134 (e := (36, 3, .if_icmp .eq 13, [25])) rfl) (decide_eq_true hc9)) ?_
          exact dt134_25 hd ih hl hk_b0 h
        · rw [if_neg hc9] at h
          refine Q.map (A.bF (gI_of zm134 (e := (36, 3, .if_icmp .eq 13, [25])) rfl) (fun q => hc9 (of_decide_eq_true q))) ?_
          refine Q.run zm134 2 (i' := 22) (ls' := [some (.ref b0), some (.int x1), some (.int x2), some (.int x3), some (.int x4), some (.int x5), some (.int x6), some (.int x7), some (.int r4), g9]) (st' := [.int (-1), .int r4]) rfl ?_
          by_cases hc10 : r4 = (-1)
          · rw [if_pos hc10] at h
            refine Q.map (A.bF (gI_of zm134 (e := (42, 3, .if_icmp .ne 54, [48])) rfl) (fun q => of_decide_eq_true q hc10)) ?_
            refine Q.run zm134 1 (i' := 24) (ls' := [some (.ref b0), some (.int x1), some (.int x2), some (.int x3), some (.int x4), some (.int x5), some (.int x6), some (.int x7), some (.int r4), g9]) (st' := [.int x2]) rfl ?_
            by_cases hc11 : x2 = 0
            · rw [if_pos hc11] at h
              refine Q.map (A.zT (gI_of zm134 (e := (46, 3, .ifCond .eq 50, [48])) rfl) (decide_eq_true hc11)) ?_
              exact dt134_48 hd ih hl hk_b0 h
            · rw [if_neg hc11] at h
              refine Q.map (A.zF (gI_of zm134 (e := (46, 3, .ifCond .eq 50, [48])) rfl) (fun q => hc11 (of_decide_eq_true q))) ?_
              exact dt134_25 hd ih hl hk_b0 h
          · rw [if_neg hc10] at h
            refine Q.map (A.bT (gI_of zm134 (e := (42, 3, .if_icmp .ne 54, [48])) rfl) (decide_eq_true hc10)) ?_
            exact dt134_48 hd ih hl hk_b0 h
def dm134 (b0 : Nat) (x1 : Int32) (x2 : Int32) (x3 : Int32) (x4 : Int32) (x5 : Int32) (s : aS) : Option (Int32 × aS) :=
  dm134_4 5000 b0 x1 x2 x3 x4 x5 0 0 s
set_option maxRecDepth 100000 in
theorem dt134 {sio : Bool} {tt : Nat} {cc : Nat → Nat → Int32} {d : Nat} (hd : 2 ≤ d) {b0 : Nat} {x1 : Int32} {x2 : Int32} {x3 : Int32} {x4 : Int32} {x5 : Int32} {s : aS} (hl : Ly tt cc s) (hk_b0 : aK s b0 3) {o : Int32 × aS} (h : dm134  b0 x1 x2 x3 x4 x5 s = some o) : Q 1 sio tt cc d 134 0 [some (.ref b0), some (.int x1), some (.int x2), some (.int x3), some (.int x4), some (.int x5), none, none, none, none] [] s (.inl (some (.int o.1)), o.2) := by
  unfold dm134 at h
  obtain ⟨d, rfl⟩ : ∃ e, d = e + 1 := ⟨d - 1, by omega⟩
  refine Q.run zm134 4 (i' := 4) (ls' := [some (.ref b0), some (.int x1), some (.int x2), some (.int x3), some (.int x4), some (.int x5), some (.int 0), some (.int 0), none, none]) (st' := []) rfl ?_
  exact dt134_4 hd _ hl hk_b0 h
/-! 133 FormulaTrees.shift(IZII)I -/
set_option maxRecDepth 100000 in
theorem zm133 : zP[133]? = some zM133 := rfl
def dm133_56 (k29 : Int32 → Int32 → Int32 → Int32 → Int32 → Int32 → aS → Option (xZ × aS)) (x1 : Int32) (x2 : Int32) (x3 : Int32) (x4 : Int32) (x5 : Int32) (x6 : Int32) (s : aS) : Option (xZ × aS) :=
  k29 x1 x2 x3 x4 x5 (x6 + 1) s
set_option maxRecDepth 100000 in
theorem dt133_56 {sio : Bool} {tt : Nat} {cc : Nat → Nat → Int32} {d : Nat} (hd : 9 ≤ d) {k29 : Int32 → Int32 → Int32 → Int32 → Int32 → Int32 → aS → Option (xZ × aS)} (hk29 : ∀ {x1 : Int32} {x2 : Int32} {x3 : Int32} {x4 : Int32} {x5 : Int32} {x6 : Int32} {g7 : Option Value} {s : aS}, Ly tt cc s → ∀ {o : xZ × aS}, k29 x1 x2 x3 x4 x5 x6 s = some o → Q 1 sio tt cc d 133 29 [some (.ref 78), some (.int x1), some (.int x2), some (.int x3), some (.int x4), some (.int x5), some (.int x6), g7] [] s o) {x1 : Int32} {x2 : Int32} {x3 : Int32} {x4 : Int32} {x5 : Int32} {x6 : Int32} {g7 : Option Value} {s : aS} (hl : Ly tt cc s) {o : xZ × aS} (h : dm133_56 k29 x1 x2 x3 x4 x5 x6 s = some o) : Q 1 sio tt cc d 133 56 [some (.ref 78), some (.int x1), some (.int x2), some (.int x3), some (.int x4), some (.int x5), some (.int x6), g7] [] s o := by
  unfold dm133_56 at h
  obtain ⟨d, rfl⟩ : ∃ e, d = e + 1 := ⟨d - 1, by omega⟩
  refine Q.run zm133 2 (i' := 29) (ls' := [some (.ref 78), some (.int x1), some (.int x2), some (.int x3), some (.int x4), some (.int x5), some (.int (x6 + 1)), g7]) (st' := []) rfl ?_
  exact hk29 hl  h
def dm133_20 (s : aS) : Option (xZ × aS) :=
  some (.inr 0, nw s 80 0)
set_option maxRecDepth 100000 in
theorem dt133_20 {sio : Bool} {tt : Nat} {cc : Nat → Nat → Int32} {d : Nat} (hd : 9 ≤ d) {x1 : Int32} {x2 : Int32} {x3 : Int32} {x4 : Int32} {s : aS} (hl : Ly tt cc s) {o : xZ × aS} (h : dm133_20  s = some o) : Q 1 sio tt cc d 133 20 [some (.ref 78), some (.int x1), some (.int x2), some (.int x3), some (.int x4), none, none, none] [] s o := by
  unfold dm133_20 at h
  obtain ⟨d, rfl⟩ : ∃ e, d = e + 1 := ⟨d - 1, by omega⟩
  cases h
  exact Q.t zm133 (show zM133.2.2.2.2.2[20]? = some (42, 3, .new 58, [200]) from rfl) rfl rfl hl.gL (by omega) hl
def dm133_50 (k29 : Int32 → Int32 → Int32 → Int32 → Int32 → Int32 → aS → Option (xZ × aS)) (x1 : Int32) (x2 : Int32) (x3 : Int32) (x4 : Int32) (x6 : Int32) (y0 : Int32) (c1 : Nat) (y2 : Int32) (y3 : Int32) (s : aS) : Option (xZ × aS) :=
  bv (dm134 c1 y2 y3 x2 x3 x4 s) fun r4 s3 =>
  dm133_56 k29 x1 x2 x3 x4 (y0 + r4) x6 s3
set_option maxRecDepth 100000 in
theorem dt133_50 {sio : Bool} {tt : Nat} {cc : Nat → Nat → Int32} {d : Nat} (hd : 9 ≤ d) {k29 : Int32 → Int32 → Int32 → Int32 → Int32 → Int32 → aS → Option (xZ × aS)} (hk29 : ∀ {x1 : Int32} {x2 : Int32} {x3 : Int32} {x4 : Int32} {x5 : Int32} {x6 : Int32} {g7 : Option Value} {s : aS}, Ly tt cc s → ∀ {o : xZ × aS}, k29 x1 x2 x3 x4 x5 x6 s = some o → Q 1 sio tt cc d 133 29 [some (.ref 78), some (.int x1), some (.int x2), some (.int x3), some (.int x4), some (.int x5), some (.int x6), g7] [] s o) {x1 : Int32} {x2 : Int32} {x3 : Int32} {x4 : Int32} {x6 : Int32} {y0 : Int32} {c1 : Nat} {y2 : Int32} {y3 : Int32} {x5 : Int32} {b7 : Nat} {s : aS} (hl : Ly tt cc s) (hk_c1 : aK s c1 3) {o : xZ × aS} (h : dm133_50 k29 x1 x2 x3 x4 x6 y0 c1 y2 y3 s = some o) : Q 1 sio tt cc d 133 50 [some (.ref 78), some (.int x1), some (.int x2), some (.int x3), some (.int x4), some (.int x5), some (.int x6), some (.ref b7)] [.int y3, .int y2, .ref c1, .int y0] s o := by
  unfold dm133_50 at h
  obtain ⟨d, rfl⟩ : ∃ e, d = e + 1 := ⟨d - 1, by omega⟩
  refine Q.run zm133 3 (i' := 53) (ls' := [some (.ref 78), some (.int x1), some (.int x2), some (.int x3), some (.int x4), some (.int x5), some (.int x6), some (.ref b7)]) (st' := [.int x4, .int x3, .int x2, .int y3, .int y2, .ref c1, .int y0]) rfl ?_
  obtain ⟨r4, s3, hc2, h⟩ := bv_so h
  have hq1 : Q 1 sio tt cc d 134 0 [some (.ref c1), some (.int y2), some (.int y3), some (.int x2), some (.int x3), some (.int x4), none, none, none, none] [] s (.inl (some (.int r4)), s3) := dt134 (by omega) hl hk_c1 hc2
  refine Q.callI (gC_vi zm133 (show zM133.2.2.2.2.2[53]? = some (103, 3, .invokevirtual 153, [0, 134, 5, 3]) from rfl) zm134 hk_c1.1 (hl.tr hk_c1).1 rfl (show aCr 5 c1 [.int x4, .int x3, .int x2, .int y3, .int y2, .ref c1, .int y0] 10 = some ([some (.ref c1), some (.int y2), some (.int y3), some (.int x2), some (.int x3), some (.int x4), none, none, none, none], [.int y0]) from rfl)) hq1 ?_
  have hr5 : aK s3 c1 3 := hq1.2.1.k hk_c1
  refine Q.run zm133 2 (i' := 56) (ls' := [some (.ref 78), some (.int x1), some (.int x2), some (.int x3), some (.int x4), some (.int (y0 + r4)), some (.int x6), some (.ref b7)]) (st' := []) rfl ?_
  exact dt133_56 hd hk29 hq1.1  h
def dm133_29 : Nat → Int32 → Int32 → Int32 → Int32 → Int32 → Int32 → aS → Option (xZ × aS)
  | 0, _, _, _, _, _, _, _ => none
  | n + 1, x1, x2, x3, x4, x5, x6, s =>
    if 8 ≤ x6 then
      some (.inl (some (.int x5)), s)
    else
      bu (dm54 x6 s) fun r4 =>
      vN r4 (
        dm133_56 (dm133_29 n) x1 x2 x3 x4 x5 x6 s
      ) fun b6 =>
        if aK s b6 3 then
          if aB x6 8 then
            if (sI s 101 (jN x6)) = x1 then
              dm133_50 (dm133_29 n) x1 x2 x3 x4 x6 x5 b6 x1 1 s
            else
              dm133_50 (dm133_29 n) x1 x2 x3 x4 x6 x5 b6 x1 0 s
          else none
        else none
set_option maxRecDepth 100000 in
theorem dt133_29 {sio : Bool} {tt : Nat} {cc : Nat → Nat → Int32} {d : Nat} (hd : 9 ≤ d) : ∀ (n : Nat) {x1 : Int32} {x2 : Int32} {x3 : Int32} {x4 : Int32} {x5 : Int32} {x6 : Int32} {g7 : Option Value} {s : aS} (_ : Ly tt cc s) {o : xZ × aS} (_ : dm133_29  n x1 x2 x3 x4 x5 x6 s = some o), Q 1 sio tt cc d 133 29 [some (.ref 78), some (.int x1), some (.int x2), some (.int x3), some (.int x4), some (.int x5), some (.int x6), g7] [] s o := by
  obtain ⟨d, rfl⟩ : ∃ e, d = e + 1 := ⟨d - 1, by omega⟩
  intro n
  induction n with
  | zero => intro x1 x2 x3 x4 x5 x6 g7 s hl o h; rw [dm133_29] at h; cases h
  | succ n ih =>
    intro x1 x2 x3 x4 x5 x6 g7 s hl o h
    rw [dm133_29] at h
    refine Q.run zm133 2 (i' := 31) (ls' := [some (.ref 78), some (.int x1), some (.int x2), some (.int x3), some (.int x4), some (.int x5), some (.int x6), g7]) (st' := [.int 8, .int x6]) rfl ?_
    by_cases hc1 : 8 ≤ x6
    · rw [if_pos hc1] at h
      refine Q.map (A.bT (gI_of zm133 (e := (62, 3, .if_icmp .ge 53, [58])) rfl) (decide_eq_true hc1)) ?_
      refine Q.run zm133 1 (i' := 59) (ls' := [some (.ref 78), some (.int x1), some (.int x2), some (.int x3), some (.int x4), some (.int x5), some (.int x6), g7]) (st' := [.int x5]) rfl ?_
      cases h
      exact Q.ret (A.ri zm133 (show zM133.2.2.2.2.2[59]? = some (117, 1, .ireturn, []) from rfl) rfl rfl) hl
    · rw [if_neg hc1] at h
      refine Q.map (A.bF (gI_of zm133 (e := (62, 3, .if_icmp .ge 53, [58])) rfl) (fun q => hc1 (of_decide_eq_true q))) ?_
      refine Q.run zm133 2 (i' := 34) (ls' := [some (.ref 78), some (.int x1), some (.int x2), some (.int x3), some (.int x4), some (.int x5), some (.int x6), g7]) (st' := [.int x6, .ref 78]) rfl ?_
      obtain ⟨r4, hc3, h⟩ := bu_so h
      have hq2 : Q 1 sio tt cc d 54 0 [some (.ref 78), some (.int x6)] [] s (.inl (some r4), s) := dt54 (by omega) hl  hc3
      rcases vN_so h with ⟨hv5, h9⟩ | ⟨b6, hv5, h9⟩
      · clear h
        subst hv5
        have h := h9
        refine Q.callR (gC_vi zm133 (show zM133.2.2.2.2.2[34]? = some (68, 3, .invokevirtual 114, [0, 54, 1, 0]) from rfl) zm54 (hl.lt (a := 78) (by decide)) (hl.T (a := 78) (p := (0, 7)) 0 rfl rfl) rfl (show aCr 1 78 [.int x6, .ref 78] 2 = some ([some (.ref 78), some (.int x6)], []) from rfl)) hq2 ?_
        refine Q.run zm133 3 (i' := 56) (ls' := [some (.ref 78), some (.int x1), some (.int x2), some (.int x3), some (.int x4), some (.int x5), some (.int x6), some (.null)]) (st' := []) rfl ?_
        exact dt133_56 hd ih hl  h
      · clear h
        subst hv5
        have h := h9
        obtain ⟨hr7, h⟩ := ite_so h
        refine Q.callR (gC_vi zm133 (show zM133.2.2.2.2.2[34]? = some (68, 3, .invokevirtual 114, [0, 54, 1, 0]) from rfl) zm54 (hl.lt (a := 78) (by decide)) (hl.T (a := 78) (p := (0, 7)) 0 rfl rfl) rfl (show aCr 1 78 [.int x6, .ref 78] 2 = some ([some (.ref 78), some (.int x6)], []) from rfl)) hq2 ?_
        refine Q.run zm133 7 (i' := 42) (ls' := [some (.ref 78), some (.int x1), some (.int x2), some (.int x3), some (.int x4), some (.int x5), some (.int x6), some (.ref b6)]) (st' := [.ref 78, .int x1, .ref b6, .int x5]) rfl ?_
        refine Q.map (A.gf (gI_of zm133 (e := (84, 3, .getfield 31, [0, 3])) rfl) (hl.lt (a := 78) (by decide)) (hl.T (a := 78) (p := (0, 7)) 0 rfl rfl) (by decide) (hl.R 3 rfl)) ?_
        refine Q.run zm133 1 (i' := 44) (ls' := [some (.ref 78), some (.int x1), some (.int x2), some (.int x3), some (.int x4), some (.int x5), some (.int x6), some (.ref b6)]) (st' := [.int x6, .ref 101, .int x1, .ref b6, .int x5]) rfl ?_
        obtain ⟨hc8, h⟩ := ite_so h
        refine Q.map (A.ia (gI_of zm133 (e := (89, 1, .iaload, [])) rfl) (hl.lt (a := 101) (by decide)) (hl.T (a := 101) (p := (100, 8)) 23 rfl rfl) hc8) ?_
        refine Q.run zm133 1 (i' := 46) (ls' := [some (.ref 78), some (.int x1), some (.int x2), some (.int x3), some (.int x4), some (.int x5), some (.int x6), some (.ref b6)]) (st' := [.int x1, .int (sI s 101 (jN x6)), .int x1, .ref b6, .int x5]) rfl ?_
        by_cases hc9 : (sI s 101 (jN x6)) = x1
        · rw [if_pos hc9] at h
          refine Q.map (A.bF (gI_of zm133 (e := (91, 3, .if_icmp .ne 7, [49])) rfl) (fun q => of_decide_eq_true q hc9)) ?_
          refine Q.run zm133 2 (i' := 50) (ls' := [some (.ref 78), some (.int x1), some (.int x2), some (.int x3), some (.int x4), some (.int x5), some (.int x6), some (.ref b6)]) (st' := [.int 1, .int x1, .ref b6, .int x5]) rfl ?_
          exact dt133_50 hd ih hl hr7 h
        · rw [if_neg hc9] at h
          refine Q.map (A.bT (gI_of zm133 (e := (91, 3, .if_icmp .ne 7, [49])) rfl) (decide_eq_true hc9)) ?_
          refine Q.run zm133 1 (i' := 50) (ls' := [some (.ref 78), some (.int x1), some (.int x2), some (.int x3), some (.int x4), some (.int x5), some (.int x6), some (.ref b6)]) (st' := [.int 0, .int x1, .ref b6, .int x5]) rfl ?_
          exact dt133_50 hd ih hl hr7 h
def dm133 (x1 : Int32) (x2 : Int32) (x3 : Int32) (x4 : Int32) (s : aS) : Option (xZ × aS) :=
  bu (dm40 x1 s) fun r3 =>
  if r3 = 0 then
    some (.inr 2, nw s 82 0)
  else
    if x3 < 1 then
      dm133_20 s
    else
      bu (dm132 x2) fun r8 =>
      if r8 < x3 then
        dm133_20 s
      else
        bu (dm126 x4) fun r12 =>
        if r12 = 0 then
          dm133_20 s
        else
          dm133_29 5000 x1 x2 x3 x4 0 0 s
set_option maxRecDepth 100000 in
theorem dt133 {sio : Bool} {tt : Nat} {cc : Nat → Nat → Int32} {d : Nat} (hd : 9 ≤ d) {x1 : Int32} {x2 : Int32} {x3 : Int32} {x4 : Int32} {s : aS} (hl : Ly tt cc s) {o : xZ × aS} (h : dm133  x1 x2 x3 x4 s = some o) : Q 1 sio tt cc d 133 0 [some (.ref 78), some (.int x1), some (.int x2), some (.int x3), some (.int x4), none, none, none] [] s o := by
  unfold dm133 at h
  obtain ⟨d, rfl⟩ : ∃ e, d = e + 1 := ⟨d - 1, by omega⟩
  refine Q.run zm133 1 (i' := 1) (ls' := [some (.ref 78), some (.int x1), some (.int x2), some (.int x3), some (.int x4), none, none, none]) (st' := [.ref 78]) rfl ?_
  refine Q.map (A.gf (gI_of zm133 (e := (1, 3, .getfield 21, [0, 1])) rfl) (hl.lt (a := 78) (by decide)) (hl.T (a := 78) (p := (0, 7)) 0 rfl rfl) (by decide) (hl.R 1 rfl)) ?_
  refine Q.run zm133 1 (i' := 3) (ls' := [some (.ref 78), some (.int x1), some (.int x2), some (.int x3), some (.int x4), none, none, none]) (st' := [.int x1, .ref 81]) rfl ?_
  obtain ⟨r3, hc2, h⟩ := bu_so h
  have hq1 : Q 1 sio tt cc d 40 0 [some (.ref 81), some (.int x1)] [] s (.inl (some (.int r3)), s) := dt40 (by omega) hl  hc2
  refine Q.callI (gC_vi zm133 (show zM133.2.2.2.2.2[3]? = some (5, 3, .invokevirtual 96, [0, 40, 1, 2]) from rfl) zm40 (hl.lt (a := 81) (by decide)) (hl.T (a := 81) (p := (2, 3)) 3 rfl rfl) rfl (show aCr 1 81 [.int x1, .ref 81] 2 = some ([some (.ref 81), some (.int x1)], []) from rfl)) hq1 ?_
  by_cases hc4 : r3 = 0
  · rw [if_pos hc4] at h
    refine Q.map (A.zF (gI_of zm133 (e := (8, 3, .ifCond .ne 13, [10])) rfl) (fun q => of_decide_eq_true q hc4)) ?_
    cases h
    exact Q.t zm133 (show zM133.2.2.2.2.2[5]? = some (11, 3, .new 100, [202]) from rfl) rfl rfl hl.gL (by omega) hl
  · rw [if_neg hc4] at h
    refine Q.map (A.zT (gI_of zm133 (e := (8, 3, .ifCond .ne 13, [10])) rfl) (decide_eq_true hc4)) ?_
    refine Q.run zm133 2 (i' := 12) (ls' := [some (.ref 78), some (.int x1), some (.int x2), some (.int x3), some (.int x4), none, none, none]) (st' := [.int 1, .int x3]) rfl ?_
    by_cases hc5 : x3 < 1
    · rw [if_pos hc5] at h
      refine Q.map (A.bT (gI_of zm133 (e := (23, 3, .if_icmp .lt 19, [20])) rfl) (decide_eq_true hc5)) ?_
      exact dt133_20 hd hl  h
    · rw [if_neg hc5] at h
      refine Q.map (A.bF (gI_of zm133 (e := (23, 3, .if_icmp .lt 19, [20])) rfl) (fun q => hc5 (of_decide_eq_true q))) ?_
      refine Q.run zm133 2 (i' := 15) (ls' := [some (.ref 78), some (.int x1), some (.int x2), some (.int x3), some (.int x4), none, none, none]) (st' := [.int x2, .int x3]) rfl ?_
      obtain ⟨r8, hc7, h⟩ := bu_so h
      have hq6 : Q 1 sio tt cc d 132 0 [some (.int x2)] [] s (.inl (some (.int r8)), s) := dt132 (by omega) hl  hc7
      refine Q.callI (gC_st zm133 (show zM133.2.2.2.2.2[15]? = some (28, 3, .invokestatic 147, [0, 132, 1]) from rfl) zm132 (show aC 1 [.int x2, .int x3] 1 = some ([some (.int x2)], [.int x3]) from rfl)) hq6 ?_
      by_cases hc9 : r8 < x3
      · rw [if_pos hc9] at h
        refine Q.map (A.bT (gI_of zm133 (e := (31, 3, .if_icmp .gt 11, [20])) rfl) (decide_eq_true hc9)) ?_
        exact dt133_20 hd hl  h
      · rw [if_neg hc9] at h
        refine Q.map (A.bF (gI_of zm133 (e := (31, 3, .if_icmp .gt 11, [20])) rfl) (fun q => hc9 (of_decide_eq_true q))) ?_
        refine Q.run zm133 1 (i' := 18) (ls' := [some (.ref 78), some (.int x1), some (.int x2), some (.int x3), some (.int x4), none, none, none]) (st' := [.int x4]) rfl ?_
        obtain ⟨r12, hc11, h⟩ := bu_so h
        have hq10 : Q 1 sio tt cc d 126 0 [some (.int x4)] [] s (.inl (some (.int r12)), s) := dt126 (by omega) hl  hc11
        refine Q.callI (gC_st zm133 (show zM133.2.2.2.2.2[18]? = some (36, 3, .invokestatic 134, [0, 126, 1]) from rfl) zm126 (show aC 1 [.int x4] 1 = some ([some (.int x4)], []) from rfl)) hq10 ?_
        by_cases hc13 : r12 = 0
        · rw [if_pos hc13] at h
          refine Q.map (A.zF (gI_of zm133 (e := (39, 3, .ifCond .ne 13, [25])) rfl) (fun q => of_decide_eq_true q hc13)) ?_
          exact dt133_20 hd hl  h
        · rw [if_neg hc13] at h
          refine Q.map (A.zT (gI_of zm133 (e := (39, 3, .ifCond .ne 13, [25])) rfl) (decide_eq_true hc13)) ?_
          refine Q.run zm133 4 (i' := 29) (ls' := [some (.ref 78), some (.int x1), some (.int x2), some (.int x3), some (.int x4), some (.int 0), some (.int 0), none]) (st' := []) rfl ?_
          exact dt133_29 hd _ hl  h
