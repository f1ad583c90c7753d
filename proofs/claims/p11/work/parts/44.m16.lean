/-! 223 FormulaTreesModel.copyNode(II)V -/
set_option maxRecDepth 100000 in
theorem zm223 : zP[223]? = some zM223 := rfl
def dm223 (x1 : Int32) (x2 : Int32) (s : aS) : Option (aS) :=
  if aB x1 1152 then
    if aB x2 1152 then
      nx (wI s 128 (jN x2) (sI s 128 (jN x1))) fun s3 =>
      if aB x1 1152 then
        if aB x2 1152 then
          nx (wI s3 129 (jN x2) (sI s3 129 (jN x1))) fun s8 =>
          if aB x1 1152 then
            if aB x2 1152 then
              nx (wI s8 130 (jN x2) (sI s8 130 (jN x1))) fun s13 =>
              if aB x1 1152 then
                if aB x2 1152 then
                  nx (wI s13 131 (jN x2) (sI s13 131 (jN x1))) fun s18 =>
                  if aB x1 1152 then
                    if aB x2 1152 then
                      nx (wI s18 132 (jN x2) (sI s18 132 (jN x1))) fun s23 =>
                      if aB x1 1152 then
                        if aB x2 1152 then
                          nx (wI s23 133 (jN x2) (sI s23 133 (jN x1))) fun s28 =>
                          if aB x1 1152 then
                            if aB x2 1152 then
                              nx (wI s28 134 (jN x2) (sI s28 134 (jN x1))) fun s33 =>
                              if aB x1 1152 then
                                if aB x2 1152 then
                                  nx (wI s33 135 (jN x2) (sI s33 135 (jN x1))) fun s38 =>
                                  if aB x1 1152 then
                                    if aB x2 1152 then
                                      nx (wI s38 136 (jN x2) (sI s38 136 (jN x1))) fun s43 =>
                                      if aB x1 1152 then
                                        if aB x2 1152 then
                                          nx (wI s43 137 (jN x2) (sI s43 137 (jN x1))) fun s48 =>
                                          if aB x1 1152 then
                                            if aB x2 1152 then
                                              nx (wI s48 138 (jN x2) (sI s48 138 (jN x1))) fun s53 =>
                                              some s53
                                            else none
                                          else none
                                        else none
                                      else none
                                    else none
                                  else none
                                else none
                              else none
                            else none
                          else none
                        else none
                      else none
                    else none
                  else none
                else none
              else none
            else none
          else none
        else none
      else none
    else none
  else none
set_option maxRecDepth 100000 in
theorem dt223 {sio : Bool} {tt : Nat} {cc : Nat → Nat → Int32} {d : Nat} (hd : 0 ≤ d) {x1 : Int32} {x2 : Int32} {s : aS} (hl : Ly tt cc s) {o : aS} (h : dm223  x1 x2 s = some o) : Q 2 sio tt cc d 223 0 [some (.ref 121), some (.int x1), some (.int x2)] [] s (.inl none, o) := by
  unfold dm223 at h
  refine Q.run zm223 1 (i' := 1) (ls' := [some (.ref 121), some (.int x1), some (.int x2)]) (st' := [.ref 121]) rfl ?_
  refine Q.map (A.gf (gI_of zm223 (e := (1, 3, .getfield 29, [9, 9])) rfl) (hl.lt (a := 121) (by decide)) (hl.T (a := 121) (p := (9, 45)) 43 rfl rfl) (by decide) (hl.R 29 rfl)) ?_
  refine Q.run zm223 2 (i' := 4) (ls' := [some (.ref 121), some (.int x1), some (.int x2)]) (st' := [.ref 121, .int x2, .ref 128]) rfl ?_
  refine Q.map (A.gf (gI_of zm223 (e := (6, 3, .getfield 29, [9, 9])) rfl) (hl.lt (a := 121) (by decide)) (hl.T (a := 121) (p := (9, 45)) 43 rfl rfl) (by decide) (hl.R 29 rfl)) ?_
  refine Q.run zm223 1 (i' := 6) (ls' := [some (.ref 121), some (.int x1), some (.int x2)]) (st' := [.int x1, .ref 128, .int x2, .ref 128]) rfl ?_
  obtain ⟨hc1, h⟩ := ite_so h
  refine Q.map (A.ia (gI_of zm223 (e := (10, 1, .iaload, [])) rfl) (hl.lt (a := 128) (by decide)) (hl.T (a := 128) (p := (100, 1152)) 50 rfl rfl) hc1) ?_
  obtain ⟨hc2, h⟩ := ite_so h
  obtain ⟨s3, hs4, h⟩ := nx_so h
  refine Q.is hs4 rfl (gI_of zm223 (e := (11, 1, .iastore, [])) rfl) (hl.lt (a := 128) (by decide)) (by decide) (hl.T (a := 128) (p := (100, 1152)) 50 rfl rfl) hc2 ?_
  have hl5 : Ly tt cc s3 := by rw [hs4]; exact hl.wId (by decide)
  refine Q.run zm223 1 (i' := 9) (ls' := [some (.ref 121), some (.int x1), some (.int x2)]) (st' := [.ref 121]) rfl ?_
  refine Q.map (A.gf (gI_of zm223 (e := (13, 3, .getfield 32, [9, 10])) rfl) (hl5.lt (a := 121) (by decide)) (hl5.T (a := 121) (p := (9, 45)) 43 rfl rfl) (by decide) (hl5.R 30 rfl)) ?_
  refine Q.run zm223 2 (i' := 12) (ls' := [some (.ref 121), some (.int x1), some (.int x2)]) (st' := [.ref 121, .int x2, .ref 129]) rfl ?_
  refine Q.map (A.gf (gI_of zm223 (e := (18, 3, .getfield 32, [9, 10])) rfl) (hl5.lt (a := 121) (by decide)) (hl5.T (a := 121) (p := (9, 45)) 43 rfl rfl) (by decide) (hl5.R 30 rfl)) ?_
  refine Q.run zm223 1 (i' := 14) (ls' := [some (.ref 121), some (.int x1), some (.int x2)]) (st' := [.int x1, .ref 129, .int x2, .ref 129]) rfl ?_
  obtain ⟨hc6, h⟩ := ite_so h
  refine Q.map (A.ia (gI_of zm223 (e := (22, 1, .iaload, [])) rfl) (hl5.lt (a := 129) (by decide)) (hl5.T (a := 129) (p := (100, 1152)) 51 rfl rfl) hc6) ?_
  obtain ⟨hc7, h⟩ := ite_so h
  obtain ⟨s8, hs9, h⟩ := nx_so h
  refine Q.is hs9 rfl (gI_of zm223 (e := (23, 1, .iastore, [])) rfl) (hl5.lt (a := 129) (by decide)) (by decide) (hl5.T (a := 129) (p := (100, 1152)) 51 rfl rfl) hc7 ?_
  have hl10 : Ly tt cc s8 := by rw [hs9]; exact hl5.wId (by decide)
  refine Q.run zm223 1 (i' := 17) (ls' := [some (.ref 121), some (.int x1), some (.int x2)]) (st' := [.ref 121]) rfl ?_
  refine Q.map (A.gf (gI_of zm223 (e := (25, 3, .getfield 35, [9, 11])) rfl) (hl10.lt (a := 121) (by decide)) (hl10.T (a := 121) (p := (9, 45)) 43 rfl rfl) (by decide) (hl10.R 31 rfl)) ?_
  refine Q.run zm223 2 (i' := 20) (ls' := [some (.ref 121), some (.int x1), some (.int x2)]) (st' := [.ref 121, .int x2, .ref 130]) rfl ?_
  refine Q.map (A.gf (gI_of zm223 (e := (30, 3, .getfield 35, [9, 11])) rfl) (hl10.lt (a := 121) (by decide)) (hl10.T (a := 121) (p := (9, 45)) 43 rfl rfl) (by decide) (hl10.R 31 rfl)) ?_
  refine Q.run zm223 1 (i' := 22) (ls' := [some (.ref 121), some (.int x1), some (.int x2)]) (st' := [.int x1, .ref 130, .int x2, .ref 130]) rfl ?_
  obtain ⟨hc11, h⟩ := ite_so h
  refine Q.map (A.ia (gI_of zm223 (e := (34, 1, .iaload, [])) rfl) (hl10.lt (a := 130) (by decide)) (hl10.T (a := 130) (p := (100, 1152)) 52 rfl rfl) hc11) ?_
  obtain ⟨hc12, h⟩ := ite_so h
  obtain ⟨s13, hs14, h⟩ := nx_so h
  refine Q.is hs14 rfl (gI_of zm223 (e := (35, 1, .iastore, [])) rfl) (hl10.lt (a := 130) (by decide)) (by decide) (hl10.T (a := 130) (p := (100, 1152)) 52 rfl rfl) hc12 ?_
  have hl15 : Ly tt cc s13 := by rw [hs14]; exact hl10.wId (by decide)
  refine Q.run zm223 1 (i' := 25) (ls' := [some (.ref 121), some (.int x1), some (.int x2)]) (st' := [.ref 121]) rfl ?_
  refine Q.map (A.gf (gI_of zm223 (e := (37, 3, .getfield 38, [9, 12])) rfl) (hl15.lt (a := 121) (by decide)) (hl15.T (a := 121) (p := (9, 45)) 43 rfl rfl) (by decide) (hl15.R 32 rfl)) ?_
  refine Q.run zm223 2 (i' := 28) (ls' := [some (.ref 121), some (.int x1), some (.int x2)]) (st' := [.ref 121, .int x2, .ref 131]) rfl ?_
  refine Q.map (A.gf (gI_of zm223 (e := (42, 3, .getfield 38, [9, 12])) rfl) (hl15.lt (a := 121) (by decide)) (hl15.T (a := 121) (p := (9, 45)) 43 rfl rfl) (by decide) (hl15.R 32 rfl)) ?_
  refine Q.run zm223 1 (i' := 30) (ls' := [some (.ref 121), some (.int x1), some (.int x2)]) (st' := [.int x1, .ref 131, .int x2, .ref 131]) rfl ?_
  obtain ⟨hc16, h⟩ := ite_so h
  refine Q.map (A.ia (gI_of zm223 (e := (46, 1, .iaload, [])) rfl) (hl15.lt (a := 131) (by decide)) (hl15.T (a := 131) (p := (100, 1152)) 53 rfl rfl) hc16) ?_
  obtain ⟨hc17, h⟩ := ite_so h
  obtain ⟨s18, hs19, h⟩ := nx_so h
  refine Q.is hs19 rfl (gI_of zm223 (e := (47, 1, .iastore, [])) rfl) (hl15.lt (a := 131) (by decide)) (by decide) (hl15.T (a := 131) (p := (100, 1152)) 53 rfl rfl) hc17 ?_
  have hl20 : Ly tt cc s18 := by rw [hs19]; exact hl15.wId (by decide)
  refine Q.run zm223 1 (i' := 33) (ls' := [some (.ref 121), some (.int x1), some (.int x2)]) (st' := [.ref 121]) rfl ?_
  refine Q.map (A.gf (gI_of zm223 (e := (49, 3, .getfield 41, [9, 13])) rfl) (hl20.lt (a := 121) (by decide)) (hl20.T (a := 121) (p := (9, 45)) 43 rfl rfl) (by decide) (hl20.R 33 rfl)) ?_
  refine Q.run zm223 2 (i' := 36) (ls' := [some (.ref 121), some (.int x1), some (.int x2)]) (st' := [.ref 121, .int x2, .ref 132]) rfl ?_
  refine Q.map (A.gf (gI_of zm223 (e := (54, 3, .getfield 41, [9, 13])) rfl) (hl20.lt (a := 121) (by decide)) (hl20.T (a := 121) (p := (9, 45)) 43 rfl rfl) (by decide) (hl20.R 33 rfl)) ?_
  refine Q.run zm223 1 (i' := 38) (ls' := [some (.ref 121), some (.int x1), some (.int x2)]) (st' := [.int x1, .ref 132, .int x2, .ref 132]) rfl ?_
  obtain ⟨hc21, h⟩ := ite_so h
  refine Q.map (A.ia (gI_of zm223 (e := (58, 1, .iaload, [])) rfl) (hl20.lt (a := 132) (by decide)) (hl20.T (a := 132) (p := (100, 1152)) 54 rfl rfl) hc21) ?_
  obtain ⟨hc22, h⟩ := ite_so h
  obtain ⟨s23, hs24, h⟩ := nx_so h
  refine Q.is hs24 rfl (gI_of zm223 (e := (59, 1, .iastore, [])) rfl) (hl20.lt (a := 132) (by decide)) (by decide) (hl20.T (a := 132) (p := (100, 1152)) 54 rfl rfl) hc22 ?_
  have hl25 : Ly tt cc s23 := by rw [hs24]; exact hl20.wId (by decide)
  refine Q.run zm223 1 (i' := 41) (ls' := [some (.ref 121), some (.int x1), some (.int x2)]) (st' := [.ref 121]) rfl ?_
  refine Q.map (A.gf (gI_of zm223 (e := (61, 3, .getfield 44, [9, 14])) rfl) (hl25.lt (a := 121) (by decide)) (hl25.T (a := 121) (p := (9, 45)) 43 rfl rfl) (by decide) (hl25.R 34 rfl)) ?_
  refine Q.run zm223 2 (i' := 44) (ls' := [some (.ref 121), some (.int x1), some (.int x2)]) (st' := [.ref 121, .int x2, .ref 133]) rfl ?_
  refine Q.map (A.gf (gI_of zm223 (e := (66, 3, .getfield 44, [9, 14])) rfl) (hl25.lt (a := 121) (by decide)) (hl25.T (a := 121) (p := (9, 45)) 43 rfl rfl) (by decide) (hl25.R 34 rfl)) ?_
  refine Q.run zm223 1 (i' := 46) (ls' := [some (.ref 121), some (.int x1), some (.int x2)]) (st' := [.int x1, .ref 133, .int x2, .ref 133]) rfl ?_
  obtain ⟨hc26, h⟩ := ite_so h
  refine Q.map (A.ia (gI_of zm223 (e := (70, 1, .iaload, [])) rfl) (hl25.lt (a := 133) (by decide)) (hl25.T (a := 133) (p := (100, 1152)) 55 rfl rfl) hc26) ?_
  obtain ⟨hc27, h⟩ := ite_so h
  obtain ⟨s28, hs29, h⟩ := nx_so h
  refine Q.is hs29 rfl (gI_of zm223 (e := (71, 1, .iastore, [])) rfl) (hl25.lt (a := 133) (by decide)) (by decide) (hl25.T (a := 133) (p := (100, 1152)) 55 rfl rfl) hc27 ?_
  have hl30 : Ly tt cc s28 := by rw [hs29]; exact hl25.wId (by decide)
  refine Q.run zm223 1 (i' := 49) (ls' := [some (.ref 121), some (.int x1), some (.int x2)]) (st' := [.ref 121]) rfl ?_
  refine Q.map (A.gf (gI_of zm223 (e := (73, 3, .getfield 47, [9, 15])) rfl) (hl30.lt (a := 121) (by decide)) (hl30.T (a := 121) (p := (9, 45)) 43 rfl rfl) (by decide) (hl30.R 35 rfl)) ?_
  refine Q.run zm223 2 (i' := 52) (ls' := [some (.ref 121), some (.int x1), some (.int x2)]) (st' := [.ref 121, .int x2, .ref 134]) rfl ?_
  refine Q.map (A.gf (gI_of zm223 (e := (78, 3, .getfield 47, [9, 15])) rfl) (hl30.lt (a := 121) (by decide)) (hl30.T (a := 121) (p := (9, 45)) 43 rfl rfl) (by decide) (hl30.R 35 rfl)) ?_
  refine Q.run zm223 1 (i' := 54) (ls' := [some (.ref 121), some (.int x1), some (.int x2)]) (st' := [.int x1, .ref 134, .int x2, .ref 134]) rfl ?_
  obtain ⟨hc31, h⟩ := ite_so h
  refine Q.map (A.ia (gI_of zm223 (e := (82, 1, .iaload, [])) rfl) (hl30.lt (a := 134) (by decide)) (hl30.T (a := 134) (p := (100, 1152)) 56 rfl rfl) hc31) ?_
  obtain ⟨hc32, h⟩ := ite_so h
  obtain ⟨s33, hs34, h⟩ := nx_so h
  refine Q.is hs34 rfl (gI_of zm223 (e := (83, 1, .iastore, [])) rfl) (hl30.lt (a := 134) (by decide)) (by decide) (hl30.T (a := 134) (p := (100, 1152)) 56 rfl rfl) hc32 ?_
  have hl35 : Ly tt cc s33 := by rw [hs34]; exact hl30.wId (by decide)
  refine Q.run zm223 1 (i' := 57) (ls' := [some (.ref 121), some (.int x1), some (.int x2)]) (st' := [.ref 121]) rfl ?_
  refine Q.map (A.gf (gI_of zm223 (e := (85, 3, .getfield 50, [9, 16])) rfl) (hl35.lt (a := 121) (by decide)) (hl35.T (a := 121) (p := (9, 45)) 43 rfl rfl) (by decide) (hl35.R 36 rfl)) ?_
  refine Q.run zm223 2 (i' := 60) (ls' := [some (.ref 121), some (.int x1), some (.int x2)]) (st' := [.ref 121, .int x2, .ref 135]) rfl ?_
  refine Q.map (A.gf (gI_of zm223 (e := (90, 3, .getfield 50, [9, 16])) rfl) (hl35.lt (a := 121) (by decide)) (hl35.T (a := 121) (p := (9, 45)) 43 rfl rfl) (by decide) (hl35.R 36 rfl)) ?_
  refine Q.run zm223 1 (i' := 62) (ls' := [some (.ref 121), some (.int x1), some (.int x2)]) (st' := [.int x1, .ref 135, .int x2, .ref 135]) rfl ?_
  obtain ⟨hc36, h⟩ := ite_so h
  refine Q.map (A.ia (gI_of zm223 (e := (94, 1, .iaload, [])) rfl) (hl35.lt (a := 135) (by decide)) (hl35.T (a := 135) (p := (100, 1152)) 57 rfl rfl) hc36) ?_
  obtain ⟨hc37, h⟩ := ite_so h
  obtain ⟨s38, hs39, h⟩ := nx_so h
  refine Q.is hs39 rfl (gI_of zm223 (e := (95, 1, .iastore, [])) rfl) (hl35.lt (a := 135) (by decide)) (by decide) (hl35.T (a := 135) (p := (100, 1152)) 57 rfl rfl) hc37 ?_
  have hl40 : Ly tt cc s38 := by rw [hs39]; exact hl35.wId (by decide)
  refine Q.run zm223 1 (i' := 65) (ls' := [some (.ref 121), some (.int x1), some (.int x2)]) (st' := [.ref 121]) rfl ?_
  refine Q.map (A.gf (gI_of zm223 (e := (97, 3, .getfield 53, [9, 17])) rfl) (hl40.lt (a := 121) (by decide)) (hl40.T (a := 121) (p := (9, 45)) 43 rfl rfl) (by decide) (hl40.R 37 rfl)) ?_
  refine Q.run zm223 2 (i' := 68) (ls' := [some (.ref 121), some (.int x1), some (.int x2)]) (st' := [.ref 121, .int x2, .ref 136]) rfl ?_
  refine Q.map (A.gf (gI_of zm223 (e := (102, 3, .getfield 53, [9, 17])) rfl) (hl40.lt (a := 121) (by decide)) (hl40.T (a := 121) (p := (9, 45)) 43 rfl rfl) (by decide) (hl40.R 37 rfl)) ?_
  refine Q.run zm223 1 (i' := 70) (ls' := [some (.ref 121), some (.int x1), some (.int x2)]) (st' := [.int x1, .ref 136, .int x2, .ref 136]) rfl ?_
  obtain ⟨hc41, h⟩ := ite_so h
  refine Q.map (A.ia (gI_of zm223 (e := (106, 1, .iaload, [])) rfl) (hl40.lt (a := 136) (by decide)) (hl40.T (a := 136) (p := (100, 1152)) 58 rfl rfl) hc41) ?_
  obtain ⟨hc42, h⟩ := ite_so h
  obtain ⟨s43, hs44, h⟩ := nx_so h
  refine Q.is hs44 rfl (gI_of zm223 (e := (107, 1, .iastore, [])) rfl) (hl40.lt (a := 136) (by decide)) (by decide) (hl40.T (a := 136) (p := (100, 1152)) 58 rfl rfl) hc42 ?_
  have hl45 : Ly tt cc s43 := by rw [hs44]; exact hl40.wId (by decide)
  refine Q.run zm223 1 (i' := 73) (ls' := [some (.ref 121), some (.int x1), some (.int x2)]) (st' := [.ref 121]) rfl ?_
  refine Q.map (A.gf (gI_of zm223 (e := (109, 3, .getfield 56, [9, 18])) rfl) (hl45.lt (a := 121) (by decide)) (hl45.T (a := 121) (p := (9, 45)) 43 rfl rfl) (by decide) (hl45.R 38 rfl)) ?_
  refine Q.run zm223 2 (i' := 76) (ls' := [some (.ref 121), some (.int x1), some (.int x2)]) (st' := [.ref 121, .int x2, .ref 137]) rfl ?_
  refine Q.map (A.gf (gI_of zm223 (e := (114, 3, .getfield 56, [9, 18])) rfl) (hl45.lt (a := 121) (by decide)) (hl45.T (a := 121) (p := (9, 45)) 43 rfl rfl) (by decide) (hl45.R 38 rfl)) ?_
  refine Q.run zm223 1 (i' := 78) (ls' := [some (.ref 121), some (.int x1), some (.int x2)]) (st' := [.int x1, .ref 137, .int x2, .ref 137]) rfl ?_
  obtain ⟨hc46, h⟩ := ite_so h
  refine Q.map (A.ia (gI_of zm223 (e := (118, 1, .iaload, [])) rfl) (hl45.lt (a := 137) (by decide)) (hl45.T (a := 137) (p := (100, 1152)) 59 rfl rfl) hc46) ?_
  obtain ⟨hc47, h⟩ := ite_so h
  obtain ⟨s48, hs49, h⟩ := nx_so h
  refine Q.is hs49 rfl (gI_of zm223 (e := (119, 1, .iastore, [])) rfl) (hl45.lt (a := 137) (by decide)) (by decide) (hl45.T (a := 137) (p := (100, 1152)) 59 rfl rfl) hc47 ?_
  have hl50 : Ly tt cc s48 := by rw [hs49]; exact hl45.wId (by decide)
  refine Q.run zm223 1 (i' := 81) (ls' := [some (.ref 121), some (.int x1), some (.int x2)]) (st' := [.ref 121]) rfl ?_
  refine Q.map (A.gf (gI_of zm223 (e := (121, 3, .getfield 59, [9, 19])) rfl) (hl50.lt (a := 121) (by decide)) (hl50.T (a := 121) (p := (9, 45)) 43 rfl rfl) (by decide) (hl50.R 39 rfl)) ?_
  refine Q.run zm223 2 (i' := 84) (ls' := [some (.ref 121), some (.int x1), some (.int x2)]) (st' := [.ref 121, .int x2, .ref 138]) rfl ?_
  refine Q.map (A.gf (gI_of zm223 (e := (126, 3, .getfield 59, [9, 19])) rfl) (hl50.lt (a := 121) (by decide)) (hl50.T (a := 121) (p := (9, 45)) 43 rfl rfl) (by decide) (hl50.R 39 rfl)) ?_
  refine Q.run zm223 1 (i' := 86) (ls' := [some (.ref 121), some (.int x1), some (.int x2)]) (st' := [.int x1, .ref 138, .int x2, .ref 138]) rfl ?_
  obtain ⟨hc51, h⟩ := ite_so h
  refine Q.map (A.ia (gI_of zm223 (e := (130, 1, .iaload, [])) rfl) (hl50.lt (a := 138) (by decide)) (hl50.T (a := 138) (p := (100, 1152)) 60 rfl rfl) hc51) ?_
  obtain ⟨hc52, h⟩ := ite_so h
  obtain ⟨s53, hs54, h⟩ := nx_so h
  refine Q.is hs54 rfl (gI_of zm223 (e := (131, 1, .iastore, [])) rfl) (hl50.lt (a := 138) (by decide)) (by decide) (hl50.T (a := 138) (p := (100, 1152)) 60 rfl rfl) hc52 ?_
  have hl55 : Ly tt cc s53 := by rw [hs54]; exact hl50.wId (by decide)
  cases h
  exact Q.ret (A.rv zm223 (show zM223.2.2.2.2.2[88]? = some (132, 1, .return_, []) from rfl) rfl) hl55
/-! 222 FormulaTreesModel.layOut(II)V -/
set_option maxRecDepth 100000 in
theorem zm222 : zP[222]? = some zM222 := rfl
def dm222_72 : Nat → Int32 → Int32 → aS → Option (aS)
  | 0, _, _, _ => none
  | n + 1, x2, x5, s =>
    if (sI s 121 1) ≤ x5 then
      some s
    else
      if aB (2048 + x5) 2304 then
        if aB ((256 * x2) + x5) 2304 then
          nx (wI s 139 (jN ((256 * x2) + x5)) (sI s 139 (jN (2048 + x5)))) fun s4 =>
          dm222_72 n x2 (x5 + 1) s4
        else none
      else none
set_option maxRecDepth 100000 in
theorem dt222_72 {sio : Bool} {tt : Nat} {cc : Nat → Nat → Int32} {d : Nat} (hd : 1 ≤ d) : ∀ (n : Nat) {x2 : Int32} {x5 : Int32} {x1 : Int32} {x3 : Int32} {x4 : Int32} {g6 : Option Value} {g7 : Option Value} {g8 : Option Value} {s : aS} (_ : Ly tt cc s) {o : aS} (_ : dm222_72  n x2 x5 s = some o), Q 2 sio tt cc d 222 72 [some (.ref 121), some (.int x1), some (.int x2), some (.int x3), some (.int x4), some (.int x5), g6, g7, g8] [] s (.inl none, o) := by
  obtain ⟨d, rfl⟩ : ∃ e, d = e + 1 := ⟨d - 1, by omega⟩
  intro n
  induction n with
  | zero => intro x2 x5 x1 x3 x4 g6 g7 g8 s hl o h; rw [dm222_72] at h; cases h
  | succ n ih =>
    intro x2 x5 x1 x3 x4 g6 g7 g8 s hl o h
    rw [dm222_72] at h
    refine Q.run zm222 2 (i' := 74) (ls' := [some (.ref 121), some (.int x1), some (.int x2), some (.int x3), some (.int x4), some (.int x5), g6, g7, g8]) (st' := [.ref 121, .int x5]) rfl ?_
    refine Q.map (A.gf (gI_of zm222 (e := (132, 3, .getfield 103, [9, 1])) rfl) (hl.lt (a := 121) (by decide)) (hl.T (a := 121) (p := (9, 45)) 43 rfl rfl) (by decide) rfl) ?_
    by_cases hc1 : (sI s 121 1) ≤ x5
    · rw [if_pos hc1] at h
      refine Q.map (A.bT (gI_of zm222 (e := (135, 3, .if_icmp .ge 33, [92])) rfl) (decide_eq_true hc1)) ?_
      cases h
      exact Q.ret (A.rv zm222 (show zM222.2.2.2.2.2[92]? = some (168, 1, .return_, []) from rfl) rfl) hl
    · rw [if_neg hc1] at h
      refine Q.map (A.bF (gI_of zm222 (e := (135, 3, .if_icmp .ge 33, [92])) rfl) (fun q => hc1 (of_decide_eq_true q))) ?_
      refine Q.run zm222 1 (i' := 77) (ls' := [some (.ref 121), some (.int x1), some (.int x2), some (.int x3), some (.int x4), some (.int x5), g6, g7, g8]) (st' := [.ref 121]) rfl ?_
      refine Q.map (A.gf (gI_of zm222 (e := (139, 3, .getfield 62, [9, 20])) rfl) (hl.lt (a := 121) (by decide)) (hl.T (a := 121) (p := (9, 45)) 43 rfl rfl) (by decide) (hl.R 40 rfl)) ?_
      refine Q.run zm222 6 (i' := 84) (ls' := [some (.ref 121), some (.int x1), some (.int x2), some (.int x3), some (.int x4), some (.int x5), g6, g7, g8]) (st' := [.ref 121, .int ((256 * x2) + x5), .ref 139]) rfl ?_
      refine Q.map (A.gf (gI_of zm222 (e := (151, 3, .getfield 62, [9, 20])) rfl) (hl.lt (a := 121) (by decide)) (hl.T (a := 121) (p := (9, 45)) 43 rfl rfl) (by decide) (hl.R 40 rfl)) ?_
      refine Q.run zm222 3 (i' := 88) (ls' := [some (.ref 121), some (.int x1), some (.int x2), some (.int x3), some (.int x4), some (.int x5), g6, g7, g8]) (st' := [.int (2048 + x5), .ref 139, .int ((256 * x2) + x5), .ref 139]) rfl ?_
      obtain ⟨hc2, h⟩ := ite_so h
      refine Q.map (A.ia (gI_of zm222 (e := (160, 1, .iaload, [])) rfl) (hl.lt (a := 139) (by decide)) (hl.T (a := 139) (p := (100, 2304)) 61 rfl rfl) hc2) ?_
      obtain ⟨hc3, h⟩ := ite_so h
      obtain ⟨s4, hs5, h⟩ := nx_so h
      refine Q.is hs5 rfl (gI_of zm222 (e := (161, 1, .iastore, [])) rfl) (hl.lt (a := 139) (by decide)) (by decide) (hl.T (a := 139) (p := (100, 2304)) 61 rfl rfl) hc3 ?_
      have hl6 : Ly tt cc s4 := by rw [hs5]; exact hl.wId (by decide)
      refine Q.run zm222 2 (i' := 72) (ls' := [some (.ref 121), some (.int x1), some (.int x2), some (.int x3), some (.int x4), some (.int (x5 + 1)), g6, g7, g8]) (st' := []) rfl ?_
      exact ih hl6  h
def dm222_46 (k9 : Int32 → Int32 → Int32 → aS → Option (aS)) : Nat → Int32 → Int32 → Int32 → Int32 → Int32 → Int32 → aS → Option (aS)
  | 0, _, _, _, _, _, _, _ => none
  | n + 1, x2, x3, x4, x6, x7, x8, s =>
    if x8 < 0 then
      k9 x2 x3 (x4 + x6) s
    else
      if aB x7 128 then
        nx (wI s 143 (jN x7) x8) fun s3 =>
        if aB x8 128 then
          dm222_46 k9 n x2 x3 x4 x6 (x7 + (-1)) (sI s3 142 (jN x8)) s3
        else none
      else none
set_option maxRecDepth 100000 in
theorem dt222_46 {sio : Bool} {tt : Nat} {cc : Nat → Nat → Int32} {d : Nat} (hd : 1 ≤ d) {k9 : Int32 → Int32 → Int32 → aS → Option (aS)} (hk9 : ∀ {x2 : Int32} {x3 : Int32} {x4 : Int32} {x1 : Int32} {g5 : Option Value} {g6 : Option Value} {g7 : Option Value} {g8 : Option Value} {s : aS}, Ly tt cc s → ∀ {o : aS}, k9 x2 x3 x4 s = some o → Q 2 sio tt cc d 222 9 [some (.ref 121), some (.int x1), some (.int x2), some (.int x3), some (.int x4), g5, g6, g7, g8] [] s (.inl none, o)) : ∀ (n : Nat) {x2 : Int32} {x3 : Int32} {x4 : Int32} {x6 : Int32} {x7 : Int32} {x8 : Int32} {x1 : Int32} {x5 : Int32} {s : aS} (_ : Ly tt cc s) {o : aS} (_ : dm222_46 k9 n x2 x3 x4 x6 x7 x8 s = some o), Q 2 sio tt cc d 222 46 [some (.ref 121), some (.int x1), some (.int x2), some (.int x3), some (.int x4), some (.int x5), some (.int x6), some (.int x7), some (.int x8)] [] s (.inl none, o) := by
  obtain ⟨d, rfl⟩ : ∃ e, d = e + 1 := ⟨d - 1, by omega⟩
  intro n
  induction n with
  | zero => intro x2 x3 x4 x6 x7 x8 x1 x5 s hl o h; rw [dm222_46] at h; cases h
  | succ n ih =>
    intro x2 x3 x4 x6 x7 x8 x1 x5 s hl o h
    rw [dm222_46] at h
    refine Q.run zm222 1 (i' := 47) (ls' := [some (.ref 121), some (.int x1), some (.int x2), some (.int x3), some (.int x4), some (.int x5), some (.int x6), some (.int x7), some (.int x8)]) (st' := [.int x8]) rfl ?_
    by_cases hc1 : x8 < 0
    · rw [if_pos hc1] at h
      refine Q.map (A.zT (gI_of zm222 (e := (82, 3, .ifCond .lt 27, [60])) rfl) (decide_eq_true hc1)) ?_
      refine Q.run zm222 5 (i' := 9) (ls' := [some (.ref 121), some (.int x1), some (.int x2), some (.int x3), some (.int (x4 + x6)), some (.int x5), some (.int x6), some (.int x7), some (.int x8)]) (st' := []) rfl ?_
      exact hk9 hl  h
    · rw [if_neg hc1] at h
      refine Q.map (A.zF (gI_of zm222 (e := (82, 3, .ifCond .lt 27, [60])) rfl) (fun q => hc1 (of_decide_eq_true q))) ?_
      refine Q.run zm222 1 (i' := 49) (ls' := [some (.ref 121), some (.int x1), some (.int x2), some (.int x3), some (.int x4), some (.int x5), some (.int x6), some (.int x7), some (.int x8)]) (st' := [.ref 121]) rfl ?_
      refine Q.map (A.gf (gI_of zm222 (e := (86, 3, .getfield 74, [9, 25])) rfl) (hl.lt (a := 121) (by decide)) (hl.T (a := 121) (p := (9, 45)) 43 rfl rfl) (by decide) (hl.R 44 rfl)) ?_
      refine Q.run zm222 2 (i' := 52) (ls' := [some (.ref 121), some (.int x1), some (.int x2), some (.int x3), some (.int x4), some (.int x5), some (.int x6), some (.int x7), some (.int x8)]) (st' := [.int x8, .int x7, .ref 143]) rfl ?_
      obtain ⟨hc2, h⟩ := ite_so h
      obtain ⟨s3, hs4, h⟩ := nx_so h
      refine Q.is hs4 rfl (gI_of zm222 (e := (93, 1, .iastore, [])) rfl) (hl.lt (a := 143) (by decide)) (by decide) (hl.T (a := 143) (p := (100, 128)) 65 rfl rfl) hc2 ?_
      have hl5 : Ly tt cc s3 := by rw [hs4]; exact hl.wId (by decide)
      refine Q.run zm222 2 (i' := 55) (ls' := [some (.ref 121), some (.int x1), some (.int x2), some (.int x3), some (.int x4), some (.int x5), some (.int x6), some (.int (x7 + (-1))), some (.int x8)]) (st' := [.ref 121]) rfl ?_
      refine Q.map (A.gf (gI_of zm222 (e := (98, 3, .getfield 71, [9, 24])) rfl) (hl5.lt (a := 121) (by decide)) (hl5.T (a := 121) (p := (9, 45)) 43 rfl rfl) (by decide) (hl5.R 43 rfl)) ?_
      refine Q.run zm222 1 (i' := 57) (ls' := [some (.ref 121), some (.int x1), some (.int x2), some (.int x3), some (.int x4), some (.int x5), some (.int x6), some (.int (x7 + (-1))), some (.int x8)]) (st' := [.int x8, .ref 142]) rfl ?_
      obtain ⟨hc6, h⟩ := ite_so h
      refine Q.map (A.ia (gI_of zm222 (e := (103, 1, .iaload, [])) rfl) (hl5.lt (a := 142) (by decide)) (hl5.T (a := 142) (p := (100, 128)) 64 rfl rfl) hc6) ?_
      refine Q.run zm222 2 (i' := 46) (ls' := [some (.ref 121), some (.int x1), some (.int x2), some (.int x3), some (.int x4), some (.int x5), some (.int x6), some (.int (x7 + (-1))), some (.int (sI s3 142 (jN x8)))]) (st' := []) rfl ?_
      exact ih hl5  h
def dm222_9 : Nat → Int32 → Int32 → Int32 → aS → Option (aS)
  | 0, _, _, _, _ => none
  | n + 1, x2, x3, x4, s =>
    if x4 ≤ 0 then
      if aB x2 9 then
        nx (wI s 127 (jN x2) x3) fun s3 =>
        dm222_72 5000 x2 0 s3
      else none
    else
      if aB (x4 + (-1)) 128 then
        bu (dm223 (1024 + (sI s 143 (jN (x4 + (-1))))) ((128 * x2) + x3) s) fun s9 =>
        if aB (1024 + (sI s 143 (jN (x4 + (-1))))) 1152 then
          if aB (sI s 143 (jN (x4 + (-1)))) 128 then
            dm222_46 (dm222_9 n) 5000 x2 (x3 + 1) (x4 + (-1)) (sI s9 129 (jN (1024 + (sI s 143 (jN (x4 + (-1))))))) (((x4 + (-1)) + (sI s9 129 (jN (1024 + (sI s 143 (jN (x4 + (-1)))))))) - 1) (sI s9 140 (jN (sI s 143 (jN (x4 + (-1)))))) s9
          else none
        else none
      else none
set_option maxRecDepth 100000 in
theorem dt222_9 {sio : Bool} {tt : Nat} {cc : Nat → Nat → Int32} {d : Nat} (hd : 1 ≤ d) : ∀ (n : Nat) {x2 : Int32} {x3 : Int32} {x4 : Int32} {x1 : Int32} {g5 : Option Value} {g6 : Option Value} {g7 : Option Value} {g8 : Option Value} {s : aS} (_ : Ly tt cc s) {o : aS} (_ : dm222_9  n x2 x3 x4 s = some o), Q 2 sio tt cc d 222 9 [some (.ref 121), some (.int x1), some (.int x2), some (.int x3), some (.int x4), g5, g6, g7, g8] [] s (.inl none, o) := by
  obtain ⟨d, rfl⟩ : ∃ e, d = e + 1 := ⟨d - 1, by omega⟩
  intro n
  induction n with
  | zero => intro x2 x3 x4 x1 g5 g6 g7 g8 s hl o h; rw [dm222_9] at h; cases h
  | succ n ih =>
    intro x2 x3 x4 x1 g5 g6 g7 g8 s hl o h
    rw [dm222_9] at h
    refine Q.run zm222 1 (i' := 10) (ls' := [some (.ref 121), some (.int x1), some (.int x2), some (.int x3), some (.int x4), g5, g6, g7, g8]) (st' := [.int x4]) rfl ?_
    by_cases hc1 : x4 ≤ 0
    · rw [if_pos hc1] at h
      refine Q.map (A.zT (gI_of zm222 (e := (14, 3, .ifCond .le 105, [65])) rfl) (decide_eq_true hc1)) ?_
      refine Q.run zm222 1 (i' := 66) (ls' := [some (.ref 121), some (.int x1), some (.int x2), some (.int x3), some (.int x4), g5, g6, g7, g8]) (st' := [.ref 121]) rfl ?_
      refine Q.map (A.gf (gI_of zm222 (e := (120, 3, .getfield 26, [9, 8])) rfl) (hl.lt (a := 121) (by decide)) (hl.T (a := 121) (p := (9, 45)) 43 rfl rfl) (by decide) (hl.R 28 rfl)) ?_
      refine Q.run zm222 2 (i' := 69) (ls' := [some (.ref 121), some (.int x1), some (.int x2), some (.int x3), some (.int x4), g5, g6, g7, g8]) (st' := [.int x3, .int x2, .ref 127]) rfl ?_
      obtain ⟨hc2, h⟩ := ite_so h
      obtain ⟨s3, hs4, h⟩ := nx_so h
      refine Q.is hs4 rfl (gI_of zm222 (e := (125, 1, .iastore, [])) rfl) (hl.lt (a := 127) (by decide)) (by decide) (hl.T (a := 127) (p := (100, 9)) 49 rfl rfl) hc2 ?_
      have hl5 : Ly tt cc s3 := by rw [hs4]; exact hl.wId (by decide)
      refine Q.run zm222 2 (i' := 72) (ls' := [some (.ref 121), some (.int x1), some (.int x2), some (.int x3), some (.int x4), some (.int 0), g6, g7, g8]) (st' := []) rfl ?_
      exact dt222_72 hd _ hl5  h
    · rw [if_neg hc1] at h
      refine Q.map (A.zF (gI_of zm222 (e := (14, 3, .ifCond .le 105, [65])) rfl) (fun q => hc1 (of_decide_eq_true q))) ?_
      refine Q.run zm222 2 (i' := 13) (ls' := [some (.ref 121), some (.int x1), some (.int x2), some (.int x3), some (.int (x4 + (-1))), g5, g6, g7, g8]) (st' := [.ref 121]) rfl ?_
      refine Q.map (A.gf (gI_of zm222 (e := (21, 3, .getfield 74, [9, 25])) rfl) (hl.lt (a := 121) (by decide)) (hl.T (a := 121) (p := (9, 45)) 43 rfl rfl) (by decide) (hl.R 44 rfl)) ?_
      refine Q.run zm222 1 (i' := 15) (ls' := [some (.ref 121), some (.int x1), some (.int x2), some (.int x3), some (.int (x4 + (-1))), g5, g6, g7, g8]) (st' := [.int (x4 + (-1)), .ref 143]) rfl ?_
      obtain ⟨hc6, h⟩ := ite_so h
      refine Q.map (A.ia (gI_of zm222 (e := (26, 1, .iaload, [])) rfl) (hl.lt (a := 143) (by decide)) (hl.T (a := 143) (p := (100, 128)) 65 rfl rfl) hc6) ?_
      refine Q.run zm222 10 (i' := 26) (ls' := [some (.ref 121), some (.int x1), some (.int x2), some (.int x3), some (.int (x4 + (-1))), some (.int (sI s 143 (jN (x4 + (-1))))), g6, g7, g8]) (st' := [.int ((128 * x2) + x3), .int (1024 + (sI s 143 (jN (x4 + (-1))))), .ref 121]) rfl ?_
      obtain ⟨s9, hc8, h⟩ := bu_so h
      have hq7 : Q 2 sio tt cc d 223 0 [some (.ref 121), some (.int (1024 + (sI s 143 (jN (x4 + (-1)))))), some (.int ((128 * x2) + x3))] [] s (.inl none, s9) := dt223 (by omega) hl  hc8
      refine Q.callV (gC_vi zm222 (show zM222.2.2.2.2.2[26]? = some (43, 3, .invokevirtual 297, [0, 223, 2, 9]) from rfl) zm223 (hl.lt (a := 121) (by decide)) (hl.T (a := 121) (p := (9, 45)) 43 rfl rfl) rfl (show aCr 2 121 [.int ((128 * x2) + x3), .int (1024 + (sI s 143 (jN (x4 + (-1))))), .ref 121] 3 = some ([some (.ref 121), some (.int (1024 + (sI s 143 (jN (x4 + (-1)))))), some (.int ((128 * x2) + x3))], []) from rfl)) hq7 ?_
      refine Q.run zm222 2 (i' := 29) (ls' := [some (.ref 121), some (.int x1), some (.int x2), some (.int (x3 + 1)), some (.int (x4 + (-1))), some (.int (sI s 143 (jN (x4 + (-1))))), g6, g7, g8]) (st' := [.ref 121]) rfl ?_
      refine Q.map (A.gf (gI_of zm222 (e := (50, 3, .getfield 32, [9, 10])) rfl) (hq7.1.lt (a := 121) (by decide)) (hq7.1.T (a := 121) (p := (9, 45)) 43 rfl rfl) (by decide) (hq7.1.R 30 rfl)) ?_
      refine Q.run zm222 3 (i' := 33) (ls' := [some (.ref 121), some (.int x1), some (.int x2), some (.int (x3 + 1)), some (.int (x4 + (-1))), some (.int (sI s 143 (jN (x4 + (-1))))), g6, g7, g8]) (st' := [.int (1024 + (sI s 143 (jN (x4 + (-1))))), .ref 129]) rfl ?_
      obtain ⟨hc10, h⟩ := ite_so h
      refine Q.map (A.ia (gI_of zm222 (e := (59, 1, .iaload, [])) rfl) (hq7.1.lt (a := 129) (by decide)) (hq7.1.T (a := 129) (p := (100, 1152)) 51 rfl rfl) hc10) ?_
      refine Q.run zm222 8 (i' := 42) (ls' := [some (.ref 121), some (.int x1), some (.int x2), some (.int (x3 + 1)), some (.int (x4 + (-1))), some (.int (sI s 143 (jN (x4 + (-1))))), some (.int (sI s9 129 (jN (1024 + (sI s 143 (jN (x4 + (-1)))))))), some (.int (((x4 + (-1)) + (sI s9 129 (jN (1024 + (sI s 143 (jN (x4 + (-1)))))))) - 1)), g8]) (st' := [.ref 121]) rfl ?_
      refine Q.map (A.gf (gI_of zm222 (e := (72, 3, .getfield 65, [9, 22])) rfl) (hq7.1.lt (a := 121) (by decide)) (hq7.1.T (a := 121) (p := (9, 45)) 43 rfl rfl) (by decide) (hq7.1.R 41 rfl)) ?_
      refine Q.run zm222 1 (i' := 44) (ls' := [some (.ref 121), some (.int x1), some (.int x2), some (.int (x3 + 1)), some (.int (x4 + (-1))), some (.int (sI s 143 (jN (x4 + (-1))))), some (.int (sI s9 129 (jN (1024 + (sI s 143 (jN (x4 + (-1)))))))), some (.int (((x4 + (-1)) + (sI s9 129 (jN (1024 + (sI s 143 (jN (x4 + (-1)))))))) - 1)), g8]) (st' := [.int (sI s 143 (jN (x4 + (-1)))), .ref 140]) rfl ?_
      obtain ⟨hc11, h⟩ := ite_so h
      refine Q.map (A.ia (gI_of zm222 (e := (77, 1, .iaload, [])) rfl) (hq7.1.lt (a := 140) (by decide)) (hq7.1.T (a := 140) (p := (100, 128)) 62 rfl rfl) hc11) ?_
      refine Q.run zm222 1 (i' := 46) (ls' := [some (.ref 121), some (.int x1), some (.int x2), some (.int (x3 + 1)), some (.int (x4 + (-1))), some (.int (sI s 143 (jN (x4 + (-1))))), some (.int (sI s9 129 (jN (1024 + (sI s 143 (jN (x4 + (-1)))))))), some (.int (((x4 + (-1)) + (sI s9 129 (jN (1024 + (sI s 143 (jN (x4 + (-1)))))))) - 1)), some (.int (sI s9 140 (jN (sI s 143 (jN (x4 + (-1)))))))]) (st' := []) rfl ?_
      exact dt222_46 hd ih _ hq7.1  h
def dm222 (x1 : Int32) (x2 : Int32) (s : aS) : Option (aS) :=
  if aB 0 128 then
    nx (wI s 143 (jN 0) x1) fun s2 =>
    dm222_9 5000 x2 0 1 s2
  else none
set_option maxRecDepth 100000 in
theorem dt222 {sio : Bool} {tt : Nat} {cc : Nat → Nat → Int32} {d : Nat} (hd : 1 ≤ d) {x1 : Int32} {x2 : Int32} {s : aS} (hl : Ly tt cc s) {o : aS} (h : dm222  x1 x2 s = some o) : Q 2 sio tt cc d 222 0 [some (.ref 121), some (.int x1), some (.int x2), none, none, none, none, none, none] [] s (.inl none, o) := by
  unfold dm222 at h
  obtain ⟨d, rfl⟩ : ∃ e, d = e + 1 := ⟨d - 1, by omega⟩
  refine Q.run zm222 5 (i' := 5) (ls' := [some (.ref 121), some (.int x1), some (.int x2), some (.int 0), some (.int 1), none, none, none, none]) (st' := [.ref 121]) rfl ?_
  refine Q.map (A.gf (gI_of zm222 (e := (6, 3, .getfield 74, [9, 25])) rfl) (hl.lt (a := 121) (by decide)) (hl.T (a := 121) (p := (9, 45)) 43 rfl rfl) (by decide) (hl.R 44 rfl)) ?_
  refine Q.run zm222 2 (i' := 8) (ls' := [some (.ref 121), some (.int x1), some (.int x2), some (.int 0), some (.int 1), none, none, none, none]) (st' := [.int x1, .int 0, .ref 143]) rfl ?_
  obtain ⟨hc1, h⟩ := ite_so h
  obtain ⟨s2, hs3, h⟩ := nx_so h
  refine Q.is hs3 rfl (gI_of zm222 (e := (11, 1, .iastore, [])) rfl) (hl.lt (a := 143) (by decide)) (by decide) (hl.T (a := 143) (p := (100, 128)) 65 rfl rfl) hc1 ?_
  have hl4 : Ly tt cc s2 := by rw [hs3]; exact hl.wId (by decide)
  exact dt222_9 hd _ hl4  h
/-! 184 FormulaTreesModel.read(II)I -/
set_option maxRecDepth 100000 in
theorem zm184 : zP[184]? = some zM184 := rfl
def dm184_101 (x1 : Int32) (x2 : Int32) (s : aS) : Option (Int32 × aS) :=
  if (sI s 121 27) = 0 then
    bu (dm190 0 s) fun s4 =>
    if aB 0 130 then
      bu (dm222 (sI s4 144 (jN 0)) x1 s4) fun s8 =>
      if aB x1 8 then
        nx (wI s8 125 (jN x1) ((1 : Int32) &&& 1)) fun s10 =>
        if aB x1 8 then
          nx (wI s10 126 (jN x1) x2) fun s14 =>
          some ((-1), s14)
        else none
      else none
    else none
  else
    some (sI s 121 26, s)
set_option maxRecDepth 100000 in
theorem dt184_101 {sio : Bool} {tt : Nat} {cc : Nat → Nat → Int32} {d : Nat} (hd : 7 ≤ d) {x1 : Int32} {x2 : Int32} {x3 : Int32} {s : aS} (hl : Ly tt cc s) {o : Int32 × aS} (h : dm184_101  x1 x2 s = some o) : Q 2 sio tt cc d 184 101 [some (.ref 121), some (.int x1), some (.int x2), some (.int x3)] [] s (.inl (some (.int o.1)), o.2) := by
  unfold dm184_101 at h
  obtain ⟨d, rfl⟩ : ∃ e, d = e + 1 := ⟨d - 1, by omega⟩
  refine Q.run zm184 1 (i' := 102) (ls' := [some (.ref 121), some (.int x1), some (.int x2), some (.int x3)]) (st' := [.ref 121]) rfl ?_
  refine Q.map (A.gf (gI_of zm184 (e := (196, 3, .getfield 134, [9, 27])) rfl) (hl.lt (a := 121) (by decide)) (hl.T (a := 121) (p := (9, 45)) 43 rfl rfl) (by decide) rfl) ?_
  by_cases hc1 : (sI s 121 27) = 0
  · rw [if_pos hc1] at h
    refine Q.map (A.zT (gI_of zm184 (e := (199, 3, .ifCond .eq 8, [107])) rfl) (decide_eq_true hc1)) ?_
    refine Q.run zm184 2 (i' := 109) (ls' := [some (.ref 121), some (.int x1), some (.int x2), some (.int x3)]) (st' := [.int 0, .ref 121]) rfl ?_
    obtain ⟨s4, hc3, h⟩ := bu_so h
    have hq2 : Q 2 sio tt cc d 190 0 [some (.ref 121), some (.int 0), none, none] [] s (.inl none, s4) := dt190 (by omega) hl  hc3
    refine Q.callV (gC_vi zm184 (show zM184.2.2.2.2.2[109]? = some (209, 3, .invokevirtual 282, [0, 190, 1, 9]) from rfl) zm190 (hl.lt (a := 121) (by decide)) (hl.T (a := 121) (p := (9, 45)) 43 rfl rfl) rfl (show aCr 1 121 [.int 0, .ref 121] 4 = some ([some (.ref 121), some (.int 0), none, none], []) from rfl)) hq2 ?_
    refine Q.run zm184 2 (i' := 112) (ls' := [some (.ref 121), some (.int x1), some (.int x2), some (.int x3)]) (st' := [.ref 121, .ref 121]) rfl ?_
    refine Q.map (A.gf (gI_of zm184 (e := (214, 3, .getfield 77, [9, 28])) rfl) (hq2.1.lt (a := 121) (by decide)) (hq2.1.T (a := 121) (p := (9, 45)) 43 rfl rfl) (by decide) (hq2.1.R 45 rfl)) ?_
    refine Q.run zm184 1 (i' := 114) (ls' := [some (.ref 121), some (.int x1), some (.int x2), some (.int x3)]) (st' := [.int 0, .ref 144, .ref 121]) rfl ?_
    obtain ⟨hc5, h⟩ := ite_so h
    refine Q.map (A.ia (gI_of zm184 (e := (218, 1, .iaload, [])) rfl) (hq2.1.lt (a := 144) (by decide)) (hq2.1.T (a := 144) (p := (100, 130)) 66 rfl rfl) hc5) ?_
    refine Q.run zm184 1 (i' := 116) (ls' := [some (.ref 121), some (.int x1), some (.int x2), some (.int x3)]) (st' := [.int x1, .int (sI s4 144 (jN 0)), .ref 121]) rfl ?_
    obtain ⟨s8, hc7, h⟩ := bu_so h
    have hq6 : Q 2 sio tt cc d 222 0 [some (.ref 121), some (.int (sI s4 144 (jN 0))), some (.int x1), none, none, none, none, none, none] [] s4 (.inl none, s8) := dt222 (by omega) hq2.1  hc7
    refine Q.callV (gC_vi zm184 (show zM184.2.2.2.2.2[116]? = some (220, 3, .invokevirtual 306, [0, 222, 2, 9]) from rfl) zm222 (hq2.1.lt (a := 121) (by decide)) (hq2.1.T (a := 121) (p := (9, 45)) 43 rfl rfl) rfl (show aCr 2 121 [.int x1, .int (sI s4 144 (jN 0)), .ref 121] 9 = some ([some (.ref 121), some (.int (sI s4 144 (jN 0))), some (.int x1), none, none, none, none, none, none], []) from rfl)) hq6 ?_
    refine Q.run zm184 1 (i' := 118) (ls' := [some (.ref 121), some (.int x1), some (.int x2), some (.int x3)]) (st' := [.ref 121]) rfl ?_
    refine Q.map (A.gf (gI_of zm184 (e := (224, 3, .getfield 19, [9, 6])) rfl) (hq6.1.lt (a := 121) (by decide)) (hq6.1.T (a := 121) (p := (9, 45)) 43 rfl rfl) (by decide) (hq6.1.R 26 rfl)) ?_
    refine Q.run zm184 2 (i' := 121) (ls' := [some (.ref 121), some (.int x1), some (.int x2), some (.int x3)]) (st' := [.int 1, .int x1, .ref 125]) rfl ?_
    obtain ⟨hc9, h⟩ := ite_so h
    obtain ⟨s10, hs11, h⟩ := nx_so h
    refine Q.bs hs11 rfl (gI_of zm184 (e := (229, 1, .bastore, [])) rfl) (hq6.1.lt (a := 125) (by decide)) (by decide) (hq6.1.T (a := 125) (p := (103, 8)) 47 rfl rfl) hc9 ?_
    have hl12 : Ly tt cc s10 := by rw [hs11]; exact hq6.1.wId (by decide)
    refine Q.run zm184 1 (i' := 123) (ls' := [some (.ref 121), some (.int x1), some (.int x2), some (.int x3)]) (st' := [.ref 121]) rfl ?_
    refine Q.map (A.gf (gI_of zm184 (e := (231, 3, .getfield 23, [9, 7])) rfl) (hl12.lt (a := 121) (by decide)) (hl12.T (a := 121) (p := (9, 45)) 43 rfl rfl) (by decide) (hl12.R 27 rfl)) ?_
    refine Q.run zm184 2 (i' := 126) (ls' := [some (.ref 121), some (.int x1), some (.int x2), some (.int x3)]) (st' := [.int x2, .int x1, .ref 126]) rfl ?_
    obtain ⟨hc13, h⟩ := ite_so h
    obtain ⟨s14, hs15, h⟩ := nx_so h
    refine Q.is hs15 rfl (gI_of zm184 (e := (236, 1, .iastore, [])) rfl) (hl12.lt (a := 126) (by decide)) (by decide) (hl12.T (a := 126) (p := (100, 8)) 48 rfl rfl) hc13 ?_
    have hl16 : Ly tt cc s14 := by rw [hs15]; exact hl12.wId (by decide)
    refine Q.run zm184 1 (i' := 128) (ls' := [some (.ref 121), some (.int x1), some (.int x2), some (.int x3)]) (st' := [.int (-1)]) rfl ?_
    cases h
    exact Q.ret (A.ri zm184 (show zM184.2.2.2.2.2[128]? = some (238, 1, .ireturn, []) from rfl) rfl rfl) hl16
  · rw [if_neg hc1] at h
    refine Q.map (A.zF (gI_of zm184 (e := (199, 3, .ifCond .eq 8, [107])) rfl) (fun q => hc1 (of_decide_eq_true q))) ?_
    refine Q.run zm184 1 (i' := 105) (ls' := [some (.ref 121), some (.int x1), some (.int x2), some (.int x3)]) (st' := [.ref 121]) rfl ?_
    refine Q.map (A.gf (gI_of zm184 (e := (203, 3, .getfield 138, [9, 26])) rfl) (hl.lt (a := 121) (by decide)) (hl.T (a := 121) (p := (9, 45)) 43 rfl rfl) (by decide) rfl) ?_
    cases h
    exact Q.ret (A.ri zm184 (show zM184.2.2.2.2.2[106]? = some (206, 1, .ireturn, []) from rfl) rfl rfl) hl
def dm184_83 (k48 : Int32 → Int32 → Int32 → aS → Option (Int32 × aS)) (x1 : Int32) (x2 : Int32) (x3 : Int32) (s : aS) : Option (Int32 × aS) :=
  if x3 = 0 then
    k48 x1 x2 x3 s
  else
    bu (dm216 s) fun s4 =>
    k48 x1 x2 x3 s4
set_option maxRecDepth 100000 in
theorem dt184_83 {sio : Bool} {tt : Nat} {cc : Nat → Nat → Int32} {d : Nat} (hd : 7 ≤ d) {k48 : Int32 → Int32 → Int32 → aS → Option (Int32 × aS)} (hk48 : ∀ {x1 : Int32} {x2 : Int32} {x3 : Int32} {s : aS}, Ly tt cc s → ∀ {o : Int32 × aS}, k48 x1 x2 x3 s = some o → Q 2 sio tt cc d 184 48 [some (.ref 121), some (.int x1), some (.int x2), some (.int x3)] [] s (.inl (some (.int o.1)), o.2)) {x1 : Int32} {x2 : Int32} {x3 : Int32} {s : aS} (hl : Ly tt cc s) {o : Int32 × aS} (h : dm184_83 k48 x1 x2 x3 s = some o) : Q 2 sio tt cc d 184 83 [some (.ref 121), some (.int x1), some (.int x2), some (.int x3)] [] s (.inl (some (.int o.1)), o.2) := by
  unfold dm184_83 at h
  obtain ⟨d, rfl⟩ : ∃ e, d = e + 1 := ⟨d - 1, by omega⟩
  refine Q.run zm184 1 (i' := 84) (ls' := [some (.ref 121), some (.int x1), some (.int x2), some (.int x3)]) (st' := [.int x3]) rfl ?_
  by_cases hc1 : x3 = 0
  · rw [if_pos hc1] at h
    refine Q.map (A.zT (gI_of zm184 (e := (156, 3, .ifCond .eq (-73), [48])) rfl) (decide_eq_true hc1)) ?_
    exact hk48 hl  h
  · rw [if_neg hc1] at h
    refine Q.map (A.zF (gI_of zm184 (e := (156, 3, .ifCond .eq (-73), [48])) rfl) (fun q => hc1 (of_decide_eq_true q))) ?_
    refine Q.run zm184 1 (i' := 86) (ls' := [some (.ref 121), some (.int x1), some (.int x2), some (.int x3)]) (st' := [.ref 121]) rfl ?_
    obtain ⟨s4, hc3, h⟩ := bu_so h
    have hq2 : Q 2 sio tt cc d 216 0 [some (.ref 121), none, none, none, none] [] s (.inl none, s4) := dt216 (by omega) hl  hc3
    refine Q.callV (gC_vi zm184 (show zM184.2.2.2.2.2[86]? = some (160, 3, .invokevirtual 303, [0, 216, 0, 9]) from rfl) zm216 (hl.lt (a := 121) (by decide)) (hl.T (a := 121) (p := (9, 45)) 43 rfl rfl) rfl (show aCr 0 121 [.ref 121] 5 = some ([some (.ref 121), none, none, none, none], []) from rfl)) hq2 ?_
    refine Q.run zm184 1 (i' := 48) (ls' := [some (.ref 121), some (.int x1), some (.int x2), some (.int x3)]) (st' := []) rfl ?_
    exact hk48 hq2.1  h
def dm184_97 (x1 : Int32) (x2 : Int32) (s : aS) : Option (Int32 × aS) :=
  bu (dm186 (sI s 121 1) s) fun s3 =>
  dm184_101 x1 x2 s3
set_option maxRecDepth 100000 in
theorem dt184_97 {sio : Bool} {tt : Nat} {cc : Nat → Nat → Int32} {d : Nat} (hd : 7 ≤ d) {x1 : Int32} {x2 : Int32} {x3 : Int32} {s : aS} (hl : Ly tt cc s) {o : Int32 × aS} (h : dm184_97  x1 x2 s = some o) : Q 2 sio tt cc d 184 97 [some (.ref 121), some (.int x1), some (.int x2), some (.int x3)] [] s (.inl (some (.int o.1)), o.2) := by
  unfold dm184_97 at h
  obtain ⟨d, rfl⟩ : ∃ e, d = e + 1 := ⟨d - 1, by omega⟩
  refine Q.run zm184 2 (i' := 99) (ls' := [some (.ref 121), some (.int x1), some (.int x2), some (.int x3)]) (st' := [.ref 121, .ref 121]) rfl ?_
  refine Q.map (A.gf (gI_of zm184 (e := (189, 3, .getfield 103, [9, 1])) rfl) (hl.lt (a := 121) (by decide)) (hl.T (a := 121) (p := (9, 45)) 43 rfl rfl) (by decide) rfl) ?_
  obtain ⟨s3, hc2, h⟩ := bu_so h
  have hq1 : Q 2 sio tt cc d 186 0 [some (.ref 121), some (.int (sI s 121 1))] [] s (.inl none, s3) := dt186 (by omega) hl  hc2
  refine Q.callV (gC_vi zm184 (show zM184.2.2.2.2.2[100]? = some (192, 3, .invokevirtual 164, [0, 186, 1, 9]) from rfl) zm186 (hl.lt (a := 121) (by decide)) (hl.T (a := 121) (p := (9, 45)) 43 rfl rfl) rfl (show aCr 1 121 [.int (sI s 121 1), .ref 121] 2 = some ([some (.ref 121), some (.int (sI s 121 1))], []) from rfl)) hq1 ?_
  exact dt184_101 hd hq1.1  h
def dm184_74 (k48 : Int32 → Int32 → Int32 → aS → Option (Int32 × aS)) (x1 : Int32) (x2 : Int32) (y0 : Int32) (s : aS) : Option (Int32 × aS) :=
  if y0 = 0 then
    dm184_83 k48 x1 x2 y0 s
  else
    if (sI s 121 36) = 0 then
      dm184_83 k48 x1 x2 y0 s
    else
      bu (dm185 s) fun s5 =>
      k48 x1 x2 y0 s5
set_option maxRecDepth 100000 in
theorem dt184_74 {sio : Bool} {tt : Nat} {cc : Nat → Nat → Int32} {d : Nat} (hd : 7 ≤ d) {k48 : Int32 → Int32 → Int32 → aS → Option (Int32 × aS)} (hk48 : ∀ {x1 : Int32} {x2 : Int32} {x3 : Int32} {s : aS}, Ly tt cc s → ∀ {o : Int32 × aS}, k48 x1 x2 x3 s = some o → Q 2 sio tt cc d 184 48 [some (.ref 121), some (.int x1), some (.int x2), some (.int x3)] [] s (.inl (some (.int o.1)), o.2)) {x1 : Int32} {x2 : Int32} {y0 : Int32} {x3 : Int32} {s : aS} (hl : Ly tt cc s) {o : Int32 × aS} (h : dm184_74 k48 x1 x2 y0 s = some o) : Q 2 sio tt cc d 184 74 [some (.ref 121), some (.int x1), some (.int x2), some (.int x3)] [.int y0] s (.inl (some (.int o.1)), o.2) := by
  unfold dm184_74 at h
  obtain ⟨d, rfl⟩ : ∃ e, d = e + 1 := ⟨d - 1, by omega⟩
  refine Q.run zm184 2 (i' := 76) (ls' := [some (.ref 121), some (.int x1), some (.int x2), some (.int y0)]) (st' := [.int y0]) rfl ?_
  by_cases hc1 : y0 = 0
  · rw [if_pos hc1] at h
    refine Q.map (A.zT (gI_of zm184 (e := (138, 3, .ifCond .eq 17, [83])) rfl) (decide_eq_true hc1)) ?_
    exact dt184_83 hd hk48 hl  h
  · rw [if_neg hc1] at h
    refine Q.map (A.zF (gI_of zm184 (e := (138, 3, .ifCond .eq 17, [83])) rfl) (fun q => hc1 (of_decide_eq_true q))) ?_
    refine Q.run zm184 1 (i' := 78) (ls' := [some (.ref 121), some (.int x1), some (.int x2), some (.int y0)]) (st' := [.ref 121]) rfl ?_
    refine Q.map (A.gf (gI_of zm184 (e := (142, 3, .getfield 246, [9, 36])) rfl) (hl.lt (a := 121) (by decide)) (hl.T (a := 121) (p := (9, 45)) 43 rfl rfl) (by decide) rfl) ?_
    by_cases hc2 : (sI s 121 36) = 0
    · rw [if_pos hc2] at h
      refine Q.map (A.zT (gI_of zm184 (e := (145, 3, .ifCond .eq 10, [83])) rfl) (decide_eq_true hc2)) ?_
      exact dt184_83 hd hk48 hl  h
    · rw [if_neg hc2] at h
      refine Q.map (A.zF (gI_of zm184 (e := (145, 3, .ifCond .eq 10, [83])) rfl) (fun q => hc2 (of_decide_eq_true q))) ?_
      refine Q.run zm184 1 (i' := 81) (ls' := [some (.ref 121), some (.int x1), some (.int x2), some (.int y0)]) (st' := [.ref 121]) rfl ?_
      obtain ⟨s5, hc4, h⟩ := bu_so h
      have hq3 : Q 2 sio tt cc d 185 0 [some (.ref 121), none] [] s (.inl none, s5) := dt185 (by omega) hl  hc4
      refine Q.callV (gC_vi zm184 (show zM184.2.2.2.2.2[81]? = some (149, 3, .invokevirtual 300, [0, 185, 0, 9]) from rfl) zm185 (hl.lt (a := 121) (by decide)) (hl.T (a := 121) (p := (9, 45)) 43 rfl rfl) rfl (show aCr 0 121 [.ref 121] 2 = some ([some (.ref 121), none], []) from rfl)) hq3 ?_
      refine Q.run zm184 1 (i' := 48) (ls' := [some (.ref 121), some (.int x1), some (.int x2), some (.int y0)]) (st' := []) rfl ?_
      exact hk48 hq3.1  h
def dm184_88 (x1 : Int32) (x2 : Int32) (s : aS) : Option (Int32 × aS) :=
  if (sI s 121 27) = 0 then
    if (sI s 121 36) = 0 then
      if (sI s 121 33) ≤ 0 then
        dm184_101 x1 x2 s
      else
        dm184_97 x1 x2 s
    else
      dm184_97 x1 x2 s
  else
    dm184_101 x1 x2 s
set_option maxRecDepth 100000 in
theorem dt184_88 {sio : Bool} {tt : Nat} {cc : Nat → Nat → Int32} {d : Nat} (hd : 7 ≤ d) {x1 : Int32} {x2 : Int32} {x3 : Int32} {s : aS} (hl : Ly tt cc s) {o : Int32 × aS} (h : dm184_88  x1 x2 s = some o) : Q 2 sio tt cc d 184 88 [some (.ref 121), some (.int x1), some (.int x2), some (.int x3)] [] s (.inl (some (.int o.1)), o.2) := by
  unfold dm184_88 at h
  obtain ⟨d, rfl⟩ : ∃ e, d = e + 1 := ⟨d - 1, by omega⟩
  refine Q.run zm184 1 (i' := 89) (ls' := [some (.ref 121), some (.int x1), some (.int x2), some (.int x3)]) (st' := [.ref 121]) rfl ?_
  refine Q.map (A.gf (gI_of zm184 (e := (167, 3, .getfield 134, [9, 27])) rfl) (hl.lt (a := 121) (by decide)) (hl.T (a := 121) (p := (9, 45)) 43 rfl rfl) (by decide) rfl) ?_
  by_cases hc1 : (sI s 121 27) = 0
  · rw [if_pos hc1] at h
    refine Q.map (A.zF (gI_of zm184 (e := (170, 3, .ifCond .ne 25, [101])) rfl) (fun q => of_decide_eq_true q hc1)) ?_
    refine Q.run zm184 1 (i' := 92) (ls' := [some (.ref 121), some (.int x1), some (.int x2), some (.int x3)]) (st' := [.ref 121]) rfl ?_
    refine Q.map (A.gf (gI_of zm184 (e := (174, 3, .getfield 246, [9, 36])) rfl) (hl.lt (a := 121) (by decide)) (hl.T (a := 121) (p := (9, 45)) 43 rfl rfl) (by decide) rfl) ?_
    by_cases hc2 : (sI s 121 36) = 0
    · rw [if_pos hc2] at h
      refine Q.map (A.zF (gI_of zm184 (e := (177, 3, .ifCond .ne 10, [97])) rfl) (fun q => of_decide_eq_true q hc2)) ?_
      refine Q.run zm184 1 (i' := 95) (ls' := [some (.ref 121), some (.int x1), some (.int x2), some (.int x3)]) (st' := [.ref 121]) rfl ?_
      refine Q.map (A.gf (gI_of zm184 (e := (181, 3, .getfield 237, [9, 33])) rfl) (hl.lt (a := 121) (by decide)) (hl.T (a := 121) (p := (9, 45)) 43 rfl rfl) (by decide) rfl) ?_
      by_cases hc3 : (sI s 121 33) ≤ 0
      · rw [if_pos hc3] at h
        refine Q.map (A.zT (gI_of zm184 (e := (184, 3, .ifCond .le 11, [101])) rfl) (decide_eq_true hc3)) ?_
        exact dt184_101 hd hl  h
      · rw [if_neg hc3] at h
        refine Q.map (A.zF (gI_of zm184 (e := (184, 3, .ifCond .le 11, [101])) rfl) (fun q => hc3 (of_decide_eq_true q))) ?_
        exact dt184_97 hd hl  h
    · rw [if_neg hc2] at h
      refine Q.map (A.zT (gI_of zm184 (e := (177, 3, .ifCond .ne 10, [97])) rfl) (decide_eq_true hc2)) ?_
      exact dt184_97 hd hl  h
  · rw [if_neg hc1] at h
    refine Q.map (A.zT (gI_of zm184 (e := (170, 3, .ifCond .ne 25, [101])) rfl) (decide_eq_true hc1)) ?_
    exact dt184_101 hd hl  h
def dm184_53 (k48 : Int32 → Int32 → Int32 → aS → Option (Int32 × aS)) : Nat → Int32 → Int32 → aS → Option (Int32 × aS)
  | 0, _, _, _ => none
  | n + 1, x1, x2, s =>
    bu (dm176 (sI s 121 26) s) fun r3 =>
    if r3 = 32 then
      nx (wI s 121 26 ((sI s 121 26) + 1)) fun s5 =>
      dm184_53 k48 n x1 x2 s5
    else
      if (sI s 121 1) ≤ (sI s 121 26) then
        dm184_74 k48 x1 x2 0 s
      else
        dm184_74 k48 x1 x2 1 s
set_option maxRecDepth 100000 in
theorem dt184_53 {sio : Bool} {tt : Nat} {cc : Nat → Nat → Int32} {d : Nat} (hd : 7 ≤ d) {k48 : Int32 → Int32 → Int32 → aS → Option (Int32 × aS)} (hk48 : ∀ {x1 : Int32} {x2 : Int32} {x3 : Int32} {s : aS}, Ly tt cc s → ∀ {o : Int32 × aS}, k48 x1 x2 x3 s = some o → Q 2 sio tt cc d 184 48 [some (.ref 121), some (.int x1), some (.int x2), some (.int x3)] [] s (.inl (some (.int o.1)), o.2)) : ∀ (n : Nat) {x1 : Int32} {x2 : Int32} {x3 : Int32} {s : aS} (_ : Ly tt cc s) {o : Int32 × aS} (_ : dm184_53 k48 n x1 x2 s = some o), Q 2 sio tt cc d 184 53 [some (.ref 121), some (.int x1), some (.int x2), some (.int x3)] [] s (.inl (some (.int o.1)), o.2) := by
  obtain ⟨d, rfl⟩ : ∃ e, d = e + 1 := ⟨d - 1, by omega⟩
  intro n
  induction n with
  | zero => intro x1 x2 x3 s hl o h; rw [dm184_53] at h; cases h
  | succ n ih =>
    intro x1 x2 x3 s hl o h
    rw [dm184_53] at h
    refine Q.run zm184 2 (i' := 55) (ls' := [some (.ref 121), some (.int x1), some (.int x2), some (.int x3)]) (st' := [.ref 121, .ref 121]) rfl ?_
    refine Q.map (A.gf (gI_of zm184 (e := (96, 3, .getfield 138, [9, 26])) rfl) (hl.lt (a := 121) (by decide)) (hl.T (a := 121) (p := (9, 45)) 43 rfl rfl) (by decide) rfl) ?_
    obtain ⟨r3, hc2, h⟩ := bu_so h
    have hq1 : Q 2 sio tt cc d 176 0 [some (.ref 121), some (.int (sI s 121 26))] [] s (.inl (some (.int r3)), s) := dt176 (by omega) hl  hc2
    refine Q.callI (gC_vi zm184 (show zM184.2.2.2.2.2[56]? = some (99, 3, .invokevirtual 113, [0, 176, 1, 9]) from rfl) zm176 (hl.lt (a := 121) (by decide)) (hl.T (a := 121) (p := (9, 45)) 43 rfl rfl) rfl (show aCr 1 121 [.int (sI s 121 26), .ref 121] 2 = some ([some (.ref 121), some (.int (sI s 121 26))], []) from rfl)) hq1 ?_
    refine Q.run zm184 1 (i' := 58) (ls' := [some (.ref 121), some (.int x1), some (.int x2), some (.int x3)]) (st' := [.int 32, .int r3]) rfl ?_
    by_cases hc4 : r3 = 32
    · rw [if_pos hc4] at h
      refine Q.map (A.bF (gI_of zm184 (e := (104, 3, .if_icmp .ne 16, [66])) rfl) (fun q => of_decide_eq_true q hc4)) ?_
      refine Q.run zm184 2 (i' := 61) (ls' := [some (.ref 121), some (.int x1), some (.int x2), some (.int x3)]) (st' := [.ref 121, .ref 121]) rfl ?_
      refine Q.map (A.gf (gI_of zm184 (e := (109, 3, .getfield 138, [9, 26])) rfl) (hl.lt (a := 121) (by decide)) (hl.T (a := 121) (p := (9, 45)) 43 rfl rfl) (by decide) rfl) ?_
      refine Q.run zm184 2 (i' := 64) (ls' := [some (.ref 121), some (.int x1), some (.int x2), some (.int x3)]) (st' := [.int ((sI s 121 26) + 1), .ref 121]) rfl ?_
      obtain ⟨s5, hs6, h⟩ := nx_so h
      refine Q.pf hs6 rfl (gI_of zm184 (e := (114, 3, .putfield 138, [9, 26, 0])) rfl) (hl.lt (a := 121) (by decide)) (by decide) (hl.T (a := 121) (p := (9, 45)) 43 rfl rfl) (by decide) rfl rfl ?_
      have hl7 : Ly tt cc s5 := by rw [hs6]; exact hl.wId (by decide)
      refine Q.run zm184 1 (i' := 53) (ls' := [some (.ref 121), some (.int x1), some (.int x2), some (.int x3)]) (st' := []) rfl ?_
      exact ih hl7  h
    · rw [if_neg hc4] at h
      refine Q.map (A.bT (gI_of zm184 (e := (104, 3, .if_icmp .ne 16, [66])) rfl) (decide_eq_true hc4)) ?_
      refine Q.run zm184 1 (i' := 67) (ls' := [some (.ref 121), some (.int x1), some (.int x2), some (.int x3)]) (st' := [.ref 121]) rfl ?_
      refine Q.map (A.gf (gI_of zm184 (e := (121, 3, .getfield 138, [9, 26])) rfl) (hl.lt (a := 121) (by decide)) (hl.T (a := 121) (p := (9, 45)) 43 rfl rfl) (by decide) rfl) ?_
      refine Q.run zm184 1 (i' := 69) (ls' := [some (.ref 121), some (.int x1), some (.int x2), some (.int x3)]) (st' := [.ref 121, .int (sI s 121 26)]) rfl ?_
      refine Q.map (A.gf (gI_of zm184 (e := (125, 3, .getfield 103, [9, 1])) rfl) (hl.lt (a := 121) (by decide)) (hl.T (a := 121) (p := (9, 45)) 43 rfl rfl) (by decide) rfl) ?_
      by_cases hc8 : (sI s 121 1) ≤ (sI s 121 26)
      · rw [if_pos hc8] at h
        refine Q.map (A.bT (gI_of zm184 (e := (128, 3, .if_icmp .ge 7, [73])) rfl) (decide_eq_true hc8)) ?_
        refine Q.run zm184 1 (i' := 74) (ls' := [some (.ref 121), some (.int x1), some (.int x2), some (.int x3)]) (st' := [.int 0]) rfl ?_
        exact dt184_74 hd hk48 hl  h
      · rw [if_neg hc8] at h
        refine Q.map (A.bF (gI_of zm184 (e := (128, 3, .if_icmp .ge 7, [73])) rfl) (fun q => hc8 (of_decide_eq_true q))) ?_
        refine Q.run zm184 2 (i' := 74) (ls' := [some (.ref 121), some (.int x1), some (.int x2), some (.int x3)]) (st' := [.int 1]) rfl ?_
        exact dt184_74 hd hk48 hl  h
def dm184_48 : Nat → Int32 → Int32 → Int32 → aS → Option (Int32 × aS)
  | 0, _, _, _, _ => none
  | n + 1, x1, x2, x3, s =>
    if x3 = 0 then
      dm184_88 x1 x2 s
    else
      if (sI s 121 27) = 0 then
        dm184_53 (dm184_48 n) 5000 x1 x2 s
      else
        dm184_88 x1 x2 s
set_option maxRecDepth 100000 in
theorem dt184_48 {sio : Bool} {tt : Nat} {cc : Nat → Nat → Int32} {d : Nat} (hd : 7 ≤ d) : ∀ (n : Nat) {x1 : Int32} {x2 : Int32} {x3 : Int32} {s : aS} (_ : Ly tt cc s) {o : Int32 × aS} (_ : dm184_48  n x1 x2 x3 s = some o), Q 2 sio tt cc d 184 48 [some (.ref 121), some (.int x1), some (.int x2), some (.int x3)] [] s (.inl (some (.int o.1)), o.2) := by
  obtain ⟨d, rfl⟩ : ∃ e, d = e + 1 := ⟨d - 1, by omega⟩
  intro n
  induction n with
  | zero => intro x1 x2 x3 s hl o h; rw [dm184_48] at h; cases h
  | succ n ih =>
    intro x1 x2 x3 s hl o h
    rw [dm184_48] at h
    refine Q.run zm184 1 (i' := 49) (ls' := [some (.ref 121), some (.int x1), some (.int x2), some (.int x3)]) (st' := [.int x3]) rfl ?_
    by_cases hc1 : x3 = 0
    · rw [if_pos hc1] at h
      refine Q.map (A.zT (gI_of zm184 (e := (84, 3, .ifCond .eq 82, [88])) rfl) (decide_eq_true hc1)) ?_
      exact dt184_88 hd hl  h
    · rw [if_neg hc1] at h
      refine Q.map (A.zF (gI_of zm184 (e := (84, 3, .ifCond .eq 82, [88])) rfl) (fun q => hc1 (of_decide_eq_true q))) ?_
      refine Q.run zm184 1 (i' := 51) (ls' := [some (.ref 121), some (.int x1), some (.int x2), some (.int x3)]) (st' := [.ref 121]) rfl ?_
      refine Q.map (A.gf (gI_of zm184 (e := (88, 3, .getfield 134, [9, 27])) rfl) (hl.lt (a := 121) (by decide)) (hl.T (a := 121) (p := (9, 45)) 43 rfl rfl) (by decide) rfl) ?_
      by_cases hc2 : (sI s 121 27) = 0
      · rw [if_pos hc2] at h
        refine Q.map (A.zF (gI_of zm184 (e := (91, 3, .ifCond .ne 75, [88])) rfl) (fun q => of_decide_eq_true q hc2)) ?_
        exact dt184_53 hd ih _ hl  h
      · rw [if_neg hc2] at h
        refine Q.map (A.zT (gI_of zm184 (e := (91, 3, .ifCond .ne 75, [88])) rfl) (decide_eq_true hc2)) ?_
        exact dt184_88 hd hl  h
def dm184_13 (x1 : Int32) (x2 : Int32) (y1 : Int32) (s : aS) : Option (Int32 × aS) :=
  nx (wI s 121 0 y1) fun s1 =>
  if (sI s1 121 0) ≤ 0 then
    nx (wI s1 121 21 0) fun s5 =>
    nx (wI s5 121 29 0) fun s8 =>
    nx (wI s8 121 32 0) fun s11 =>
    nx (wI s11 121 33 0) fun s14 =>
    nx (wI s14 121 34 (-1)) fun s17 =>
    nx (wI s17 121 35 0) fun s20 =>
    nx (wI s20 121 36 1) fun s23 =>
    nx (wI s23 121 27 0) fun s26 =>
    nx (wI s26 121 26 0) fun s29 =>
    dm184_48 5000 x1 x2 1 s29
  else
    some (0, s1)
set_option maxRecDepth 100000 in
theorem dt184_13 {sio : Bool} {tt : Nat} {cc : Nat → Nat → Int32} {d : Nat} (hd : 7 ≤ d) {x1 : Int32} {x2 : Int32} {y1 : Int32} {s : aS} (hl : Ly tt cc s) {o : Int32 × aS} (h : dm184_13  x1 x2 y1 s = some o) : Q 2 sio tt cc d 184 13 [some (.ref 121), some (.int x1), some (.int x2), none] [.int y1, .ref 121] s (.inl (some (.int o.1)), o.2) := by
  unfold dm184_13 at h
  obtain ⟨d, rfl⟩ : ∃ e, d = e + 1 := ⟨d - 1, by omega⟩
  obtain ⟨s1, hs2, h⟩ := nx_so h
  refine Q.pf hs2 rfl (gI_of zm184 (e := (24, 3, .putfield 89, [9, 0, 0])) rfl) (hl.lt (a := 121) (by decide)) (by decide) (hl.T (a := 121) (p := (9, 45)) 43 rfl rfl) (by decide) rfl rfl ?_
  have hl3 : Ly tt cc s1 := by rw [hs2]; exact hl.wId (by decide)
  refine Q.run zm184 1 (i' := 15) (ls' := [some (.ref 121), some (.int x1), some (.int x2), none]) (st' := [.ref 121]) rfl ?_
  refine Q.map (A.gf (gI_of zm184 (e := (28, 3, .getfield 89, [9, 0])) rfl) (hl3.lt (a := 121) (by decide)) (hl3.T (a := 121) (p := (9, 45)) 43 rfl rfl) (by decide) rfl) ?_
  by_cases hc4 : (sI s1 121 0) ≤ 0
  · rw [if_pos hc4] at h
    refine Q.map (A.zT (gI_of zm184 (e := (31, 3, .ifCond .le 5, [19])) rfl) (decide_eq_true hc4)) ?_
    refine Q.run zm184 2 (i' := 21) (ls' := [some (.ref 121), some (.int x1), some (.int x2), none]) (st' := [.int 0, .ref 121]) rfl ?_
    obtain ⟨s5, hs6, h⟩ := nx_so h
    refine Q.pf hs6 rfl (gI_of zm184 (e := (38, 3, .putfield 141, [9, 21, 0])) rfl) (hl3.lt (a := 121) (by decide)) (by decide) (hl3.T (a := 121) (p := (9, 45)) 43 rfl rfl) (by decide) rfl rfl ?_
    have hl7 : Ly tt cc s5 := by rw [hs6]; exact hl3.wId (by decide)
    refine Q.run zm184 2 (i' := 24) (ls' := [some (.ref 121), some (.int x1), some (.int x2), none]) (st' := [.int 0, .ref 121]) rfl ?_
    obtain ⟨s8, hs9, h⟩ := nx_so h
    refine Q.pf hs9 rfl (gI_of zm184 (e := (43, 3, .putfield 144, [9, 29, 0])) rfl) (hl7.lt (a := 121) (by decide)) (by decide) (hl7.T (a := 121) (p := (9, 45)) 43 rfl rfl) (by decide) rfl rfl ?_
    have hl10 : Ly tt cc s8 := by rw [hs9]; exact hl7.wId (by decide)
    refine Q.run zm184 2 (i' := 27) (ls' := [some (.ref 121), some (.int x1), some (.int x2), none]) (st' := [.int 0, .ref 121]) rfl ?_
    obtain ⟨s11, hs12, h⟩ := nx_so h
    refine Q.pf hs12 rfl (gI_of zm184 (e := (48, 3, .putfield 147, [9, 32, 0])) rfl) (hl10.lt (a := 121) (by decide)) (by decide) (hl10.T (a := 121) (p := (9, 45)) 43 rfl rfl) (by decide) rfl rfl ?_
    have hl13 : Ly tt cc s11 := by rw [hs12]; exact hl10.wId (by decide)
    refine Q.run zm184 2 (i' := 30) (ls' := [some (.ref 121), some (.int x1), some (.int x2), none]) (st' := [.int 0, .ref 121]) rfl ?_
    obtain ⟨s14, hs15, h⟩ := nx_so h
    refine Q.pf hs15 rfl (gI_of zm184 (e := (53, 3, .putfield 237, [9, 33, 0])) rfl) (hl13.lt (a := 121) (by decide)) (by decide) (hl13.T (a := 121) (p := (9, 45)) 43 rfl rfl) (by decide) rfl rfl ?_
    have hl16 : Ly tt cc s14 := by rw [hs15]; exact hl13.wId (by decide)
    refine Q.run zm184 2 (i' := 33) (ls' := [some (.ref 121), some (.int x1), some (.int x2), none]) (st' := [.int (-1), .ref 121]) rfl ?_
    obtain ⟨s17, hs18, h⟩ := nx_so h
    refine Q.pf hs18 rfl (gI_of zm184 (e := (58, 3, .putfield 213, [9, 34, 0])) rfl) (hl16.lt (a := 121) (by decide)) (by decide) (hl16.T (a := 121) (p := (9, 45)) 43 rfl rfl) (by decide) rfl rfl ?_
    have hl19 : Ly tt cc s17 := by rw [hs18]; exact hl16.wId (by decide)
    refine Q.run zm184 2 (i' := 36) (ls' := [some (.ref 121), some (.int x1), some (.int x2), none]) (st' := [.int 0, .ref 121]) rfl ?_
    obtain ⟨s20, hs21, h⟩ := nx_so h
    refine Q.pf hs21 rfl (gI_of zm184 (e := (63, 3, .putfield 243, [9, 35, 0])) rfl) (hl19.lt (a := 121) (by decide)) (by decide) (hl19.T (a := 121) (p := (9, 45)) 43 rfl rfl) (by decide) rfl rfl ?_
    have hl22 : Ly tt cc s20 := by rw [hs21]; exact hl19.wId (by decide)
    refine Q.run zm184 2 (i' := 39) (ls' := [some (.ref 121), some (.int x1), some (.int x2), none]) (st' := [.int 1, .ref 121]) rfl ?_
    obtain ⟨s23, hs24, h⟩ := nx_so h
    refine Q.pf hs24 rfl (gI_of zm184 (e := (68, 3, .putfield 246, [9, 36, 1])) rfl) (hl22.lt (a := 121) (by decide)) (by decide) (hl22.T (a := 121) (p := (9, 45)) 43 rfl rfl) (by decide) rfl rfl ?_
    have hl25 : Ly tt cc s23 := by rw [hs24]; exact hl22.wId (by decide)
    refine Q.run zm184 2 (i' := 42) (ls' := [some (.ref 121), some (.int x1), some (.int x2), none]) (st' := [.int 0, .ref 121]) rfl ?_
    obtain ⟨s26, hs27, h⟩ := nx_so h
    refine Q.pf hs27 rfl (gI_of zm184 (e := (73, 3, .putfield 134, [9, 27, 1])) rfl) (hl25.lt (a := 121) (by decide)) (by decide) (hl25.T (a := 121) (p := (9, 45)) 43 rfl rfl) (by decide) rfl rfl ?_
    have hl28 : Ly tt cc s26 := by rw [hs27]; exact hl25.wId (by decide)
    refine Q.run zm184 2 (i' := 45) (ls' := [some (.ref 121), some (.int x1), some (.int x2), none]) (st' := [.int 0, .ref 121]) rfl ?_
    obtain ⟨s29, hs30, h⟩ := nx_so h
    refine Q.pf hs30 rfl (gI_of zm184 (e := (78, 3, .putfield 138, [9, 26, 0])) rfl) (hl28.lt (a := 121) (by decide)) (by decide) (hl28.T (a := 121) (p := (9, 45)) 43 rfl rfl) (by decide) rfl rfl ?_
    have hl31 : Ly tt cc s29 := by rw [hs30]; exact hl28.wId (by decide)
    refine Q.run zm184 2 (i' := 48) (ls' := [some (.ref 121), some (.int x1), some (.int x2), some (.int 1)]) (st' := []) rfl ?_
    exact dt184_48 hd _ hl31  h
  · rw [if_neg hc4] at h
    refine Q.map (A.zF (gI_of zm184 (e := (31, 3, .ifCond .le 5, [19])) rfl) (fun q => hc4 (of_decide_eq_true q))) ?_
    refine Q.run zm184 1 (i' := 18) (ls' := [some (.ref 121), some (.int x1), some (.int x2), none]) (st' := [.int 0]) rfl ?_
    cases h
    exact Q.ret (A.ri zm184 (show zM184.2.2.2.2.2[18]? = some (35, 1, .ireturn, []) from rfl) rfl rfl) hl3
def dm184_10 (x1 : Int32) (x2 : Int32) (s : aS) : Option (Int32 × aS) :=
  dm184_13 x1 x2 1 s
set_option maxRecDepth 100000 in
theorem dt184_10 {sio : Bool} {tt : Nat} {cc : Nat → Nat → Int32} {d : Nat} (hd : 7 ≤ d) {x1 : Int32} {x2 : Int32} {s : aS} (hl : Ly tt cc s) {o : Int32 × aS} (h : dm184_10  x1 x2 s = some o) : Q 2 sio tt cc d 184 10 [some (.ref 121), some (.int x1), some (.int x2), none] [.ref 121] s (.inl (some (.int o.1)), o.2) := by
  unfold dm184_10 at h
  obtain ⟨d, rfl⟩ : ∃ e, d = e + 1 := ⟨d - 1, by omega⟩
  refine Q.run zm184 2 (i' := 13) (ls' := [some (.ref 121), some (.int x1), some (.int x2), none]) (st' := [.int 1, .ref 121]) rfl ?_
  exact dt184_13 hd hl  h
def dm184 (x1 : Int32) (x2 : Int32) (s : aS) : Option (Int32 × aS) :=
  if x1 < 0 then
    dm184_10 x1 x2 s
  else
    if 7 < x1 then
      dm184_10 x1 x2 s
    else
      bu (dm181 x2 s) fun r5 =>
      if r5 = 0 then
        dm184_13 x1 x2 0 s
      else
        dm184_10 x1 x2 s
set_option maxRecDepth 100000 in
theorem dt184 {sio : Bool} {tt : Nat} {cc : Nat → Nat → Int32} {d : Nat} (hd : 7 ≤ d) {x1 : Int32} {x2 : Int32} {s : aS} (hl : Ly tt cc s) {o : Int32 × aS} (h : dm184  x1 x2 s = some o) : Q 2 sio tt cc d 184 0 [some (.ref 121), some (.int x1), some (.int x2), none] [] s (.inl (some (.int o.1)), o.2) := by
  unfold dm184 at h
  obtain ⟨d, rfl⟩ : ∃ e, d = e + 1 := ⟨d - 1, by omega⟩
  refine Q.run zm184 2 (i' := 2) (ls' := [some (.ref 121), some (.int x1), some (.int x2), none]) (st' := [.int x1, .ref 121]) rfl ?_
  by_cases hc1 : x1 < 0
  · rw [if_pos hc1] at h
    refine Q.map (A.zT (gI_of zm184 (e := (2, 3, .ifCond .lt 17, [10])) rfl) (decide_eq_true hc1)) ?_
    exact dt184_10 hd hl  h
  · rw [if_neg hc1] at h
    refine Q.map (A.zF (gI_of zm184 (e := (2, 3, .ifCond .lt 17, [10])) rfl) (fun q => hc1 (of_decide_eq_true q))) ?_
    refine Q.run zm184 2 (i' := 5) (ls' := [some (.ref 121), some (.int x1), some (.int x2), none]) (st' := [.int 7, .int x1, .ref 121]) rfl ?_
    by_cases hc2 : 7 < x1
    · rw [if_pos hc2] at h
      refine Q.map (A.bT (gI_of zm184 (e := (8, 3, .if_icmp .gt 11, [10])) rfl) (decide_eq_true hc2)) ?_
      exact dt184_10 hd hl  h
    · rw [if_neg hc2] at h
      refine Q.map (A.bF (gI_of zm184 (e := (8, 3, .if_icmp .gt 11, [10])) rfl) (fun q => hc2 (of_decide_eq_true q))) ?_
      refine Q.run zm184 2 (i' := 8) (ls' := [some (.ref 121), some (.int x1), some (.int x2), none]) (st' := [.int x2, .ref 121, .ref 121]) rfl ?_
      obtain ⟨r5, hc4, h⟩ := bu_so h
      have hq3 : Q 2 sio tt cc d 181 0 [some (.ref 121), some (.int x2)] [] s (.inl (some (.int r5)), s) := dt181 (by omega) hl  hc4
      refine Q.callI (gC_vi zm184 (show zM184.2.2.2.2.2[8]? = some (13, 3, .invokevirtual 128, [0, 181, 1, 9]) from rfl) zm181 (hl.lt (a := 121) (by decide)) (hl.T (a := 121) (p := (9, 45)) 43 rfl rfl) rfl (show aCr 1 121 [.int x2, .ref 121, .ref 121] 2 = some ([some (.ref 121), some (.int x2)], [.ref 121]) from rfl)) hq3 ?_
      by_cases hc6 : r5 = 0
      · rw [if_pos hc6] at h
        refine Q.map (A.zT (gI_of zm184 (e := (16, 3, .ifCond .eq 7, [12])) rfl) (decide_eq_true hc6)) ?_
        refine Q.run zm184 1 (i' := 13) (ls' := [some (.ref 121), some (.int x1), some (.int x2), none]) (st' := [.int 0, .ref 121]) rfl ?_
        exact dt184_13 hd hl  h
      · rw [if_neg hc6] at h
        refine Q.map (A.zF (gI_of zm184 (e := (16, 3, .ifCond .eq 7, [12])) rfl) (fun q => hc6 (of_decide_eq_true q))) ?_
        exact dt184_10 hd hl  h
/-! 126 FormulaTrees.isWay(I)Z -/
set_option maxRecDepth 100000 in
theorem zm126 : zP[126]? = some zM126 := rfl
def dm126 (x0 : Int32) : Option (Int32) :=
  if x0 < (-1048576) then
    some 0
  else
    if 1048576 < x0 then
      some 0
    else
      some 1
set_option maxRecDepth 100000 in
theorem dt126 {sio : Bool} {tt : Nat} {cc : Nat → Nat → Int32} {d : Nat} (hd : 0 ≤ d) {x0 : Int32} {s : aS} (hl : Ly tt cc s) {o : Int32} (h : dm126  x0 = some o) : Q 1 sio tt cc d 126 0 [some (.int x0)] [] s (.inl (some (.int o)), s) := by
  unfold dm126 at h
  refine Q.run zm126 2 (i' := 2) (ls' := [some (.int x0)]) (st' := [.int (-1048576), .int x0]) rfl ?_
  by_cases hc1 : x0 < (-1048576)
  · rw [if_pos hc1] at h
    refine Q.map (A.bT (gI_of zm126 (e := (3, 3, .if_icmp .lt 13, [8])) rfl) (decide_eq_true hc1)) ?_
    refine Q.run zm126 1 (i' := 9) (ls' := [some (.int x0)]) (st' := [.int 0]) rfl ?_
    cases h
    exact Q.ret (A.ri zm126 (show zM126.2.2.2.2.2[9]? = some (17, 1, .ireturn, []) from rfl) rfl rfl) hl
  · rw [if_neg hc1] at h
    refine Q.map (A.bF (gI_of zm126 (e := (3, 3, .if_icmp .lt 13, [8])) rfl) (fun q => hc1 (of_decide_eq_true q))) ?_
    refine Q.run zm126 2 (i' := 5) (ls' := [some (.int x0)]) (st' := [.int 1048576, .int x0]) rfl ?_
    by_cases hc2 : 1048576 < x0
    · rw [if_pos hc2] at h
      refine Q.map (A.bT (gI_of zm126 (e := (9, 3, .if_icmp .gt 7, [8])) rfl) (decide_eq_true hc2)) ?_
      refine Q.run zm126 1 (i' := 9) (ls' := [some (.int x0)]) (st' := [.int 0]) rfl ?_
      cases h
      exact Q.ret (A.ri zm126 (show zM126.2.2.2.2.2[9]? = some (17, 1, .ireturn, []) from rfl) rfl rfl) hl
    · rw [if_neg hc2] at h
      refine Q.map (A.bF (gI_of zm126 (e := (9, 3, .if_icmp .gt 7, [8])) rfl) (fun q => hc2 (of_decide_eq_true q))) ?_
      refine Q.run zm126 2 (i' := 9) (ls' := [some (.int x0)]) (st' := [.int 1]) rfl ?_
      cases h
      exact Q.ret (A.ri zm126 (show zM126.2.2.2.2.2[9]? = some (17, 1, .ireturn, []) from rfl) rfl rfl) hl
/-! 127 FormulaTrees$Tree.become(LFormulaTrees$Tree;)V -/
set_option maxRecDepth 100000 in
theorem zm127 : zP[127]? = some zM127 := rfl
def dm127 (b0 : Nat) (b1 : Nat) (s : aS) : Option (aS) :=
  nx (wI s b0 2 (sI s b1 2)) fun s1 =>
  if ¬ (b1 + 1) = (b0 + 1) ∧ ¬ (0 : Int32) < 0 ∧ ¬ (0 : Int32) < 0 ∧ ¬ (1408 : Int32) < 0 ∧ jN 0 + jN 1408 ≤ 1408 ∧ jN 0 + jN 1408 ≤ 1408 then
    nx (cpI s1 (b1 + 1) (jN 0) (b0 + 1) (jN 0) (jN 1408)) fun s6 =>
    bu (dm41 (b0 + 2) (b1 + 2) s6) fun s14 =>
    some s14
  else none
set_option maxRecDepth 100000 in
theorem dt127 {sio : Bool} {tt : Nat} {cc : Nat → Nat → Int32} {d : Nat} (hd : 2 ≤ d) {b0 : Nat} {b1 : Nat} {s : aS} (hl : Ly tt cc s) (hk_b0 : aK s b0 3) (hk_b1 : aK s b1 3) {o : aS} (h : dm127  b0 b1 s = some o) : Q 1 sio tt cc d 127 0 [some (.ref b0), some (.ref b1)] [] s (.inl none, o) := by
  unfold dm127 at h
  obtain ⟨d, rfl⟩ : ∃ e, d = e + 1 := ⟨d - 1, by omega⟩
  refine Q.run zm127 2 (i' := 2) (ls' := [some (.ref b0), some (.ref b1)]) (st' := [.ref b1, .ref b0]) rfl ?_
  refine Q.map (A.gf (gI_of zm127 (e := (2, 3, .getfield 24, [3, 2])) rfl) hk_b1.1 (hl.tr hk_b1).1 (by decide) rfl) ?_
  obtain ⟨s1, hs2, h⟩ := nx_so h
  refine Q.pf hs2 (hl.g3 hk_b0) (gI_of zm127 (e := (5, 3, .putfield 24, [3, 2, 0])) rfl) hk_b0.1 (hl.tr hk_b0).2.2.2.2.2.2.2 (hl.tr hk_b0).1 (by decide) rfl rfl ?_
  have hl3 : Ly tt cc s1 := by rw [hs2]; exact hl.wId (hl.tr hk_b0).2.2.2.2.2.2.2
  have hr4 : aK s1 b0 3 := by rw [hs2]; exact hk_b0
  have hr5 : aK s1 b1 3 := by rw [hs2]; exact hk_b1
  refine Q.run zm127 1 (i' := 5) (ls' := [some (.ref b0), some (.ref b1)]) (st' := [.ref b1]) rfl ?_
  refine Q.map (A.gf (gI_of zm127 (e := (9, 3, .getfield 9, [3, 0])) rfl) hr5.1 (hl3.tr hr5).1 (by decide) (hl3.tr hr5).2.1) ?_
  refine Q.run zm127 2 (i' := 8) (ls' := [some (.ref b0), some (.ref b1)]) (st' := [.ref b0, .int 0, .ref (b1 + 1)]) rfl ?_
  refine Q.map (A.gf (gI_of zm127 (e := (14, 3, .getfield 9, [3, 0])) rfl) hr4.1 (hl3.tr hr4).1 (by decide) (hl3.tr hr4).2.1) ?_
  refine Q.run zm127 2 (i' := 11) (ls' := [some (.ref b0), some (.ref b1)]) (st' := [.ref b0, .int 0, .ref (b0 + 1), .int 0, .ref (b1 + 1)]) rfl ?_
  refine Q.map (A.gf (gI_of zm127 (e := (19, 3, .getfield 9, [3, 0])) rfl) hr4.1 (hl3.tr hr4).1 (by decide) (hl3.tr hr4).2.1) ?_
  refine Q.map (A.al (gI_of zm127 (e := (22, 1, .arraylength, [])) rfl) (by have := (hl3.tr hr4).2.2.2.1; omega) (hl3.tr hr4).2.2.2.2.1 (by decide)) ?_
  obtain ⟨hc9, h⟩ := ite_so h
  obtain ⟨s6, hs7, h⟩ := nx_so h
  refine Q.ac hs7 (hl3.g3a hr4) zm127 (show zM127.2.2.2.2.2[13]? = some (23, 3, .invokestatic 57, [2]) from rfl) (by have := (hl3.tr hr5).2.2.2.1; omega) (by have := (hl3.tr hr4).2.2.2.1; omega) (by have := (hl3.tr hr4).2.2.2.2.2.2.2; omega) (hl3.tr hr5).2.2.2.2.1 (hl3.tr hr4).2.2.2.2.1 hc9 ?_
  have hl8 : Ly tt cc s6 := by rw [hs7]; exact hl3.cp (by have := (hl3.tr hr4).2.2.2.2.2.2.2; omega)
  have hr10 : aK s6 b0 3 := by rw [hs7]; exact hr4
  have hr11 : aK s6 b1 3 := by rw [hs7]; exact hr5
  refine Q.run zm127 1 (i' := 15) (ls' := [some (.ref b0), some (.ref b1)]) (st' := [.ref b0]) rfl ?_
  refine Q.map (A.gf (gI_of zm127 (e := (27, 3, .getfield 20, [3, 1])) rfl) hr10.1 (hl8.tr hr10).1 (by decide) (hl8.tr hr10).2.2.1) ?_
  refine Q.run zm127 1 (i' := 17) (ls' := [some (.ref b0), some (.ref b1)]) (st' := [.ref b1, .ref (b0 + 2)]) rfl ?_
  refine Q.map (A.gf (gI_of zm127 (e := (31, 3, .getfield 20, [3, 1])) rfl) hr11.1 (hl8.tr hr11).1 (by decide) (hl8.tr hr11).2.2.1) ?_
  obtain ⟨s14, hc13, h⟩ := bu_so h
  have hq12 : Q 1 sio tt cc d 41 0 [some (.ref (b0 + 2)), some (.ref (b1 + 2)), none] [] s6 (.inl none, s14) := dt41 (by omega) hl8 (hl8.leK hr10) (hl8.leK hr11) hc13
  refine Q.callV (gC_vi zm127 (show zM127.2.2.2.2.2[18]? = some (34, 3, .invokevirtual 63, [0, 41, 1, 1]) from rfl) zm41 (by have := (hl8.tr hr10).2.2.2.1; omega) (hl8.tr hr10).2.2.2.2.2.1 rfl (show aCr 1 (b0 + 2) [.ref (b1 + 2), .ref (b0 + 2)] 3 = some ([some (.ref (b0 + 2)), some (.ref (b1 + 2)), none], []) from rfl)) hq12 ?_
  have hr15 : aK s14 b0 3 := hq12.2.1.k hr10
  have hr16 : aK s14 b1 3 := hq12.2.1.k hr11
  cases h
  exact Q.ret (A.rv zm127 (show zM127.2.2.2.2.2[19]? = some (37, 1, .return_, []) from rfl) rfl) hq12.1
/-! 129 FormulaTrees$Tree.isReference(I)Z -/
set_option maxRecDepth 100000 in
theorem zm129 : zP[129]? = some zM129 := rfl
def dm129_12 (s : aS) : Option (Int32) :=
  some 1
set_option maxRecDepth 100000 in
theorem dt129_12 {sio : Bool} {tt : Nat} {cc : Nat → Nat → Int32} {d : Nat} (hd : 1 ≤ d) {b0 : Nat} {x1 : Int32} {s : aS} (hl : Ly tt cc s) {o : Int32} (h : dm129_12  s = some o) : Q 1 sio tt cc d 129 12 [some (.ref b0), some (.int x1)] [] s (.inl (some (.int o)), s) := by
  unfold dm129_12 at h
  obtain ⟨d, rfl⟩ : ∃ e, d = e + 1 := ⟨d - 1, by omega⟩
  refine Q.run zm129 2 (i' := 15) (ls' := [some (.ref b0), some (.int x1)]) (st' := [.int 1]) rfl ?_
  cases h
  exact Q.ret (A.ri zm129 (show zM129.2.2.2.2.2[15]? = some (25, 1, .ireturn, []) from rfl) rfl rfl) hl
def dm129 (b0 : Nat) (x1 : Int32) (s : aS) : Option (Int32) :=
  bu (dm57 b0 x1 0 s) fun r3 =>
  if r3 = 4 then
    dm129_12 s
  else
    bu (dm57 b0 x1 0 s) fun r7 =>
    if r7 = 5 then
      dm129_12 s
    else
      some 0
set_option maxRecDepth 100000 in
theorem dt129 {sio : Bool} {tt : Nat} {cc : Nat → Nat → Int32} {d : Nat} (hd : 1 ≤ d) {b0 : Nat} {x1 : Int32} {s : aS} (hl : Ly tt cc s) (hk_b0 : aK s b0 3) {o : Int32} (h : dm129  b0 x1 s = some o) : Q 1 sio tt cc d 129 0 [some (.ref b0), some (.int x1)] [] s (.inl (some (.int o)), s) := by
  unfold dm129 at h
  obtain ⟨d, rfl⟩ : ∃ e, d = e + 1 := ⟨d - 1, by omega⟩
  refine Q.run zm129 3 (i' := 3) (ls' := [some (.ref b0), some (.int x1)]) (st' := [.int 0, .int x1, .ref b0]) rfl ?_
  obtain ⟨r3, hc2, h⟩ := bu_so h
  have hq1 : Q 1 sio tt cc d 57 0 [some (.ref b0), some (.int x1), some (.int 0), none] [] s (.inl (some (.int r3)), s) := dt57 (by omega) hl hk_b0 hc2
  refine Q.callI (gC_vi zm129 (show zM129.2.2.2.2.2[3]? = some (3, 3, .invokevirtual 28, [0, 57, 2, 3]) from rfl) zm57 hk_b0.1 (hl.tr hk_b0).1 rfl (show aCr 2 b0 [.int 0, .int x1, .ref b0] 4 = some ([some (.ref b0), some (.int x1), some (.int 0), none], []) from rfl)) hq1 ?_
  refine Q.run zm129 1 (i' := 5) (ls' := [some (.ref b0), some (.int x1)]) (st' := [.int 4, .int r3]) rfl ?_
  by_cases hc4 : r3 = 4
  · rw [if_pos hc4] at h
    refine Q.map (A.bT (gI_of zm129 (e := (7, 3, .if_icmp .eq 13, [12])) rfl) (decide_eq_true hc4)) ?_
    exact dt129_12 hd hl  h
  · rw [if_neg hc4] at h
    refine Q.map (A.bF (gI_of zm129 (e := (7, 3, .if_icmp .eq 13, [12])) rfl) (fun q => hc4 (of_decide_eq_true q))) ?_
    refine Q.run zm129 3 (i' := 9) (ls' := [some (.ref b0), some (.int x1)]) (st' := [.int 0, .int x1, .ref b0]) rfl ?_
    obtain ⟨r7, hc6, h⟩ := bu_so h
    have hq5 : Q 1 sio tt cc d 57 0 [some (.ref b0), some (.int x1), some (.int 0), none] [] s (.inl (some (.int r7)), s) := dt57 (by omega) hl hk_b0 hc6
    refine Q.callI (gC_vi zm129 (show zM129.2.2.2.2.2[9]? = some (13, 3, .invokevirtual 28, [0, 57, 2, 3]) from rfl) zm57 hk_b0.1 (hl.tr hk_b0).1 rfl (show aCr 2 b0 [.int 0, .int x1, .ref b0] 4 = some ([some (.ref b0), some (.int x1), some (.int 0), none], []) from rfl)) hq5 ?_
    refine Q.run zm129 1 (i' := 11) (ls' := [some (.ref b0), some (.int x1)]) (st' := [.int 5, .int r7]) rfl ?_
    by_cases hc8 : r7 = 5
    · rw [if_pos hc8] at h
      refine Q.map (A.bF (gI_of zm129 (e := (17, 3, .if_icmp .ne 7, [14])) rfl) (fun q => of_decide_eq_true q hc8)) ?_
      exact dt129_12 hd hl  h
    · rw [if_neg hc8] at h
      refine Q.map (A.bT (gI_of zm129 (e := (17, 3, .if_icmp .ne 7, [14])) rfl) (decide_eq_true hc8)) ?_
      refine Q.run zm129 1 (i' := 15) (ls' := [some (.ref b0), some (.int x1)]) (st' := [.int 0]) rfl ?_
      cases h
      exact Q.ret (A.ri zm129 (show zM129.2.2.2.2.2[15]? = some (25, 1, .ireturn, []) from rfl) rfl rfl) hl
/-! 131 FormulaTrees$Tree.hasDollar(II)Z -/
set_option maxRecDepth 100000 in
theorem zm131 : zP[131]? = some zM131 := rfl
def dm131_33 (b0 : Nat) (x1 : Int32) (y0 : Int32) (y1 : Int32) (s : aS) : Option (Int32) :=
  bu (dm57 b0 x1 7 s) fun r3 =>
  if (r3 &&& (y0 * y1)) = 0 then
    some 0
  else
    some 1
set_option maxRecDepth 100000 in
theorem dt131_33 {sio : Bool} {tt : Nat} {cc : Nat → Nat → Int32} {d : Nat} (hd : 1 ≤ d) {b0 : Nat} {x1 : Int32} {y0 : Int32} {y1 : Int32} {x2 : Int32} {x3 : Int32} {x4 : Int32} {s : aS} (hl : Ly tt cc s) (hk_b0 : aK s b0 3) {o : Int32} (h : dm131_33  b0 x1 y0 y1 s = some o) : Q 1 sio tt cc d 131 33 [some (.ref b0), some (.int x1), some (.int x2), some (.int x3), some (.int x4), none] [.int y1, .int y0] s (.inl (some (.int o)), s) := by
  unfold dm131_33 at h
  obtain ⟨d, rfl⟩ : ∃ e, d = e + 1 := ⟨d - 1, by omega⟩
  refine Q.run zm131 5 (i' := 38) (ls' := [some (.ref b0), some (.int x1), some (.int x2), some (.int x3), some (.int x4), some (.int (y0 * y1))]) (st' := [.int 7, .int x1, .ref b0]) rfl ?_
  obtain ⟨r3, hc2, h⟩ := bu_so h
  have hq1 : Q 1 sio tt cc d 57 0 [some (.ref b0), some (.int x1), some (.int 7), none] [] s (.inl (some (.int r3)), s) := dt57 (by omega) hl hk_b0 hc2
  refine Q.callI (gC_vi zm131 (show zM131.2.2.2.2.2[38]? = some (64, 3, .invokevirtual 28, [0, 57, 2, 3]) from rfl) zm57 hk_b0.1 (hl.tr hk_b0).1 rfl (show aCr 2 b0 [.int 7, .int x1, .ref b0] 4 = some ([some (.ref b0), some (.int x1), some (.int 7), none], []) from rfl)) hq1 ?_
  refine Q.run zm131 2 (i' := 41) (ls' := [some (.ref b0), some (.int x1), some (.int x2), some (.int x3), some (.int x4), some (.int (y0 * y1))]) (st' := [.int (r3 &&& (y0 * y1))]) rfl ?_
  by_cases hc4 : (r3 &&& (y0 * y1)) = 0
  · rw [if_pos hc4] at h
    refine Q.map (A.zT (gI_of zm131 (e := (70, 3, .ifCond .eq 7, [44])) rfl) (decide_eq_true hc4)) ?_
    refine Q.run zm131 1 (i' := 45) (ls' := [some (.ref b0), some (.int x1), some (.int x2), some (.int x3), some (.int x4), some (.int (y0 * y1))]) (st' := [.int 0]) rfl ?_
    cases h
    exact Q.ret (A.ri zm131 (show zM131.2.2.2.2.2[45]? = some (78, 1, .ireturn, []) from rfl) rfl rfl) hl
  · rw [if_neg hc4] at h
    refine Q.map (A.zF (gI_of zm131 (e := (70, 3, .ifCond .eq 7, [44])) rfl) (fun q => hc4 (of_decide_eq_true q))) ?_
    refine Q.run zm131 2 (i' := 45) (ls' := [some (.ref b0), some (.int x1), some (.int x2), some (.int x3), some (.int x4), some (.int (y0 * y1))]) (st' := [.int 1]) rfl ?_
    cases h
    exact Q.ret (A.ri zm131 (show zM131.2.2.2.2.2[45]? = some (78, 1, .ireturn, []) from rfl) rfl rfl) hl
def dm131_28 (b0 : Nat) (x1 : Int32) (x3 : Int32) (y0 : Int32) (s : aS) : Option (Int32) :=
  if x3 = 0 then
    dm131_33 b0 x1 y0 4 s
  else
    dm131_33 b0 x1 y0 1 s
set_option maxRecDepth 100000 in
theorem dt131_28 {sio : Bool} {tt : Nat} {cc : Nat → Nat → Int32} {d : Nat} (hd : 1 ≤ d) {b0 : Nat} {x1 : Int32} {x3 : Int32} {y0 : Int32} {x2 : Int32} {x4 : Int32} {s : aS} (hl : Ly tt cc s) (hk_b0 : aK s b0 3) {o : Int32} (h : dm131_28  b0 x1 x3 y0 s = some o) : Q 1 sio tt cc d 131 28 [some (.ref b0), some (.int x1), some (.int x2), some (.int x3), some (.int x4), none] [.int y0] s (.inl (some (.int o)), s) := by
  unfold dm131_28 at h
  obtain ⟨d, rfl⟩ : ∃ e, d = e + 1 := ⟨d - 1, by omega⟩
  refine Q.run zm131 1 (i' := 29) (ls' := [some (.ref b0), some (.int x1), some (.int x2), some (.int x3), some (.int x4), none]) (st' := [.int x3, .int y0]) rfl ?_
  by_cases hc1 : x3 = 0
  · rw [if_pos hc1] at h
    refine Q.map (A.zT (gI_of zm131 (e := (49, 3, .ifCond .eq 7, [32])) rfl) (decide_eq_true hc1)) ?_
    refine Q.run zm131 1 (i' := 33) (ls' := [some (.ref b0), some (.int x1), some (.int x2), some (.int x3), some (.int x4), none]) (st' := [.int 4, .int y0]) rfl ?_
    exact dt131_33 hd hl hk_b0 h
  · rw [if_neg hc1] at h
    refine Q.map (A.zF (gI_of zm131 (e := (49, 3, .ifCond .eq 7, [32])) rfl) (fun q => hc1 (of_decide_eq_true q))) ?_
    refine Q.run zm131 2 (i' := 33) (ls' := [some (.ref b0), some (.int x1), some (.int x2), some (.int x3), some (.int x4), none]) (st' := [.int 1, .int y0]) rfl ?_
    exact dt131_33 hd hl hk_b0 h
def dm131_22 (b0 : Nat) (x1 : Int32) (x3 : Int32) (y0 : Int32) (s : aS) : Option (Int32) :=
  if y0 = 0 then
    dm131_28 b0 x1 x3 2 s
  else
    dm131_28 b0 x1 x3 1 s
set_option maxRecDepth 100000 in
theorem dt131_22 {sio : Bool} {tt : Nat} {cc : Nat → Nat → Int32} {d : Nat} (hd : 1 ≤ d) {b0 : Nat} {x1 : Int32} {x3 : Int32} {y0 : Int32} {x2 : Int32} {s : aS} (hl : Ly tt cc s) (hk_b0 : aK s b0 3) {o : Int32} (h : dm131_22  b0 x1 x3 y0 s = some o) : Q 1 sio tt cc d 131 22 [some (.ref b0), some (.int x1), some (.int x2), some (.int x3), none, none] [.int y0] s (.inl (some (.int o)), s) := by
  unfold dm131_22 at h
  obtain ⟨d, rfl⟩ : ∃ e, d = e + 1 := ⟨d - 1, by omega⟩
  refine Q.run zm131 2 (i' := 24) (ls' := [some (.ref b0), some (.int x1), some (.int x2), some (.int x3), some (.int y0), none]) (st' := [.int y0]) rfl ?_
  by_cases hc1 : y0 = 0
  · rw [if_pos hc1] at h
    refine Q.map (A.zT (gI_of zm131 (e := (40, 3, .ifCond .eq 7, [27])) rfl) (decide_eq_true hc1)) ?_
    refine Q.run zm131 1 (i' := 28) (ls' := [some (.ref b0), some (.int x1), some (.int x2), some (.int x3), some (.int y0), none]) (st' := [.int 2]) rfl ?_
    exact dt131_28 hd hl hk_b0 h
  · rw [if_neg hc1] at h
    refine Q.map (A.zF (gI_of zm131 (e := (40, 3, .ifCond .eq 7, [27])) rfl) (fun q => hc1 (of_decide_eq_true q))) ?_
    refine Q.run zm131 2 (i' := 28) (ls' := [some (.ref b0), some (.int x1), some (.int x2), some (.int x3), some (.int y0), none]) (st' := [.int 1]) rfl ?_
    exact dt131_28 hd hl hk_b0 h
def dm131_19 (b0 : Nat) (x1 : Int32) (x3 : Int32) (s : aS) : Option (Int32) :=
  dm131_22 b0 x1 x3 1 s
set_option maxRecDepth 100000 in
theorem dt131_19 {sio : Bool} {tt : Nat} {cc : Nat → Nat → Int32} {d : Nat} (hd : 1 ≤ d) {b0 : Nat} {x1 : Int32} {x3 : Int32} {x2 : Int32} {s : aS} (hl : Ly tt cc s) (hk_b0 : aK s b0 3) {o : Int32} (h : dm131_19  b0 x1 x3 s = some o) : Q 1 sio tt cc d 131 19 [some (.ref b0), some (.int x1), some (.int x2), some (.int x3), none, none] [] s (.inl (some (.int o)), s) := by
  unfold dm131_19 at h
  obtain ⟨d, rfl⟩ : ∃ e, d = e + 1 := ⟨d - 1, by omega⟩
  refine Q.run zm131 2 (i' := 22) (ls' := [some (.ref b0), some (.int x1), some (.int x2), some (.int x3), none, none]) (st' := [.int 1]) rfl ?_
  exact dt131_22 hd hl hk_b0 h
def dm131_12 (b0 : Nat) (x1 : Int32) (x2 : Int32) (y0 : Int32) (s : aS) : Option (Int32) :=
  if x2 = 3 then
    dm131_19 b0 x1 y0 s
  else
    if x2 = 5 then
      dm131_19 b0 x1 y0 s
    else
      dm131_22 b0 x1 y0 0 s
set_option maxRecDepth 100000 in
theorem dt131_12 {sio : Bool} {tt : Nat} {cc : Nat → Nat → Int32} {d : Nat} (hd : 1 ≤ d) {b0 : Nat} {x1 : Int32} {x2 : Int32} {y0 : Int32} {s : aS} (hl : Ly tt cc s) (hk_b0 : aK s b0 3) {o : Int32} (h : dm131_12  b0 x1 x2 y0 s = some o) : Q 1 sio tt cc d 131 12 [some (.ref b0), some (.int x1), some (.int x2), none, none, none] [.int y0] s (.inl (some (.int o)), s) := by
  unfold dm131_12 at h
  obtain ⟨d, rfl⟩ : ∃ e, d = e + 1 := ⟨d - 1, by omega⟩
  refine Q.run zm131 3 (i' := 15) (ls' := [some (.ref b0), some (.int x1), some (.int x2), some (.int y0), none, none]) (st' := [.int 3, .int x2]) rfl ?_
  by_cases hc1 : x2 = 3
  · rw [if_pos hc1] at h
    refine Q.map (A.bT (gI_of zm131 (e := (23, 3, .if_icmp .eq 8, [19])) rfl) (decide_eq_true hc1)) ?_
    exact dt131_19 hd hl hk_b0 h
  · rw [if_neg hc1] at h
    refine Q.map (A.bF (gI_of zm131 (e := (23, 3, .if_icmp .eq 8, [19])) rfl) (fun q => hc1 (of_decide_eq_true q))) ?_
    refine Q.run zm131 2 (i' := 18) (ls' := [some (.ref b0), some (.int x1), some (.int x2), some (.int y0), none, none]) (st' := [.int 5, .int x2]) rfl ?_
    by_cases hc2 : x2 = 5
    · rw [if_pos hc2] at h
      refine Q.map (A.bF (gI_of zm131 (e := (28, 3, .if_icmp .ne 7, [21])) rfl) (fun q => of_decide_eq_true q hc2)) ?_
      exact dt131_19 hd hl hk_b0 h
    · rw [if_neg hc2] at h
      refine Q.map (A.bT (gI_of zm131 (e := (28, 3, .if_icmp .ne 7, [21])) rfl) (decide_eq_true hc2)) ?_
      refine Q.run zm131 1 (i' := 22) (ls' := [some (.ref b0), some (.int x1), some (.int x2), some (.int y0), none, none]) (st' := [.int 0]) rfl ?_
      exact dt131_22 hd hl hk_b0 h
def dm131_9 (b0 : Nat) (x1 : Int32) (x2 : Int32) (s : aS) : Option (Int32) :=
  dm131_12 b0 x1 x2 1 s
set_option maxRecDepth 100000 in
theorem dt131_9 {sio : Bool} {tt : Nat} {cc : Nat → Nat → Int32} {d : Nat} (hd : 1 ≤ d) {b0 : Nat} {x1 : Int32} {x2 : Int32} {s : aS} (hl : Ly tt cc s) (hk_b0 : aK s b0 3) {o : Int32} (h : dm131_9  b0 x1 x2 s = some o) : Q 1 sio tt cc d 131 9 [some (.ref b0), some (.int x1), some (.int x2), none, none, none] [] s (.inl (some (.int o)), s) := by
  unfold dm131_9 at h
  obtain ⟨d, rfl⟩ : ∃ e, d = e + 1 := ⟨d - 1, by omega⟩
  refine Q.run zm131 2 (i' := 12) (ls' := [some (.ref b0), some (.int x1), some (.int x2), none, none, none]) (st' := [.int 1]) rfl ?_
  exact dt131_12 hd hl hk_b0 h
def dm131 (b0 : Nat) (x1 : Int32) (x2 : Int32) (s : aS) : Option (Int32) :=
  if x2 ≤ 4 then
    dm131_9 b0 x1 x2 s
  else
    bu (dm57 b0 x1 0 s) fun r4 =>
    if r4 = 4 then
      dm131_9 b0 x1 x2 s
    else
      dm131_12 b0 x1 x2 0 s
set_option maxRecDepth 100000 in
theorem dt131 {sio : Bool} {tt : Nat} {cc : Nat → Nat → Int32} {d : Nat} (hd : 1 ≤ d) {b0 : Nat} {x1 : Int32} {x2 : Int32} {s : aS} (hl : Ly tt cc s) (hk_b0 : aK s b0 3) {o : Int32} (h : dm131  b0 x1 x2 s = some o) : Q 1 sio tt cc d 131 0 [some (.ref b0), some (.int x1), some (.int x2), none, none, none] [] s (.inl (some (.int o)), s) := by
  unfold dm131 at h
  obtain ⟨d, rfl⟩ : ∃ e, d = e + 1 := ⟨d - 1, by omega⟩
  refine Q.run zm131 2 (i' := 2) (ls' := [some (.ref b0), some (.int x1), some (.int x2), none, none, none]) (st' := [.int 4, .int x2]) rfl ?_
  by_cases hc1 : x2 ≤ 4
  · rw [if_pos hc1] at h
    refine Q.map (A.bT (gI_of zm131 (e := (2, 3, .if_icmp .le 13, [9])) rfl) (decide_eq_true hc1)) ?_
    exact dt131_9 hd hl hk_b0 h
  · rw [if_neg hc1] at h
    refine Q.map (A.bF (gI_of zm131 (e := (2, 3, .if_icmp .le 13, [9])) rfl) (fun q => hc1 (of_decide_eq_true q))) ?_
    refine Q.run zm131 3 (i' := 6) (ls' := [some (.ref b0), some (.int x1), some (.int x2), none, none, none]) (st' := [.int 0, .int x1, .ref b0]) rfl ?_
    obtain ⟨r4, hc3, h⟩ := bu_so h
    have hq2 : Q 1 sio tt cc d 57 0 [some (.ref b0), some (.int x1), some (.int 0), none] [] s (.inl (some (.int r4)), s) := dt57 (by omega) hl hk_b0 hc3
    refine Q.callI (gC_vi zm131 (show zM131.2.2.2.2.2[6]? = some (8, 3, .invokevirtual 28, [0, 57, 2, 3]) from rfl) zm57 hk_b0.1 (hl.tr hk_b0).1 rfl (show aCr 2 b0 [.int 0, .int x1, .ref b0] 4 = some ([some (.ref b0), some (.int x1), some (.int 0), none], []) from rfl)) hq2 ?_
    refine Q.run zm131 1 (i' := 8) (ls' := [some (.ref b0), some (.int x1), some (.int x2), none, none, none]) (st' := [.int 4, .int r4]) rfl ?_
    by_cases hc5 : r4 = 4
    · rw [if_pos hc5] at h
      refine Q.map (A.bF (gI_of zm131 (e := (12, 3, .if_icmp .ne 7, [11])) rfl) (fun q => of_decide_eq_true q hc5)) ?_
      exact dt131_9 hd hl hk_b0 h
    · rw [if_neg hc5] at h
      refine Q.map (A.bT (gI_of zm131 (e := (12, 3, .if_icmp .ne 7, [11])) rfl) (decide_eq_true hc5)) ?_
      refine Q.run zm131 1 (i' := 12) (ls' := [some (.ref b0), some (.int x1), some (.int x2), none, none, none]) (st' := [.int 0]) rfl ?_
      exact dt131_12 hd hl hk_b0 h
