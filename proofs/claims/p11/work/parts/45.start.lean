/-! printed by wip/whole/tools/start.py: the run of the constructors -/
/-- what lies below K: the script, the texts -/
def cCc (xs : List Int32) (a k : Nat) : Int32 := if a = 0 then xs.getD k 0 else if a % 2 = 1 then 0 else (zTx.getD ((a - 2) / 2) ("", 0, [])).2.2.getD k 0
def cs0 (xs : List Int32) : aS := (zTt0 xs.length, fun a _ => .ref (a + 1), cCc xs, fun _ _ => 0, zK)
section ST
variable {P : List xQ6} {Cs : List Value} {K : Nat} {Ty : List (List Nat)} {d k i : Nat} {ls : xL} {st : List Value} {s : aS} {o : xZ × aS}
set_option maxRecDepth 100000 in
theorem A.nb {t : ArrayType} {ax : List Nat} {n : Int32} (hi : gI P k i = some (.newarray t, ax)) (hn : ¬ n < 0) (hn2 : jN n ≤ 100000) (ht : t = .int ∨ t = .char ∨ t = .boolean) (g : A P Cs K Ty d k (i + 1) ls (.ref (sL s) :: st) (nw s (xat2 t) (jN n)) o) : A P Cs K Ty d k i ls (.int n :: st) s o := by
  refine aA hi rfl rfl rfl rfl rfl ?_ g
  show (if ¬ n < 0 ∧ n.toNatClampNeg ≤ 100000 ∧ 100 ≤ xat2 t then some (Value.ref (hOf Ty s).length :: st, hOf Ty s ++ [(xat2 t, List.replicate n.toNatClampNeg (if t = .long then Value.long 0 else Value.int 0))]) else none) = _
  rw [if_pos ⟨hn, hn2, by rcases ht with rfl | rfl | rfl <;> decide⟩, hOf_len, ← hOf_nw]
  simp only [nw_slot]
  rcases ht with rfl | rfl | rfl
  · show some (_, _ ++ [((100 : Nat), List.replicate (jN n) (Value.int 0))]) = some (_, _ ++ [((100 : Nat), (List.range (jN n)).map fun k => Value.int 0)])
    rw [rep_map]
  · show some (_, _ ++ [((102 : Nat), List.replicate (jN n) (Value.int 0))]) = some (_, _ ++ [((102 : Nat), (List.range (jN n)).map fun k => Value.int 0)])
    rw [rep_map]
  · show some (_, _ ++ [((103 : Nat), List.replicate (jN n) (Value.int 0))]) = some (_, _ ++ [((103 : Nat), (List.range (jN n)).map fun k => Value.int 0)])
    rw [rep_map]
set_option maxRecDepth 100000 in
theorem A.nl {ax : List Nat} {n : Int32} (hi : gI P k i = some (.newarray .long, ax)) (hn : ¬ n < 0) (hn2 : jN n ≤ 100000) (g : A P Cs K Ty d k (i + 1) ls (.ref (sL s) :: st) (nw s 104 (jN n)) o) : A P Cs K Ty d k i ls (.int n :: st) s o := by
  refine aA hi rfl rfl rfl rfl rfl ?_ g
  show (if ¬ n < 0 ∧ n.toNatClampNeg ≤ 100000 ∧ 100 ≤ xat2 .long then some (Value.ref (hOf Ty s).length :: st, hOf Ty s ++ [(xat2 .long, List.replicate n.toNatClampNeg (if ArrayType.long = .long then Value.long 0 else Value.int 0))]) else none) = _
  rw [if_pos ⟨hn, hn2, by decide⟩, hOf_len, ← hOf_nw]
  simp only [nw_slot]
  show some (_, _ ++ [((104 : Nat), List.replicate (jN n) (Value.long 0))]) = some (_, _ ++ [((104 : Nat), (List.range (jN n)).map fun k => Value.long 0)])
  rw [rep_map]
set_option maxRecDepth 100000 in
theorem A.nr {q ci : Nat} {n : Int32} (hi : gI P k i = some (.anewarray q, [ci])) (hn : ¬ n < 0) (hn2 : jN n ≤ 100000) (hc : ci < 100) (g : A P Cs K Ty d k (i + 1) ls (.ref (sL s) :: st) (nw s (110 + ci) (jN n)) o) : A P Cs K Ty d k i ls (.int n :: st) s o := by
  refine aA hi rfl rfl rfl rfl rfl ?_ g
  show (if ¬ n < 0 ∧ n.toNatClampNeg ≤ 100000 ∧ ci < 100 then some (Value.ref (hOf Ty s).length :: st, hOf Ty s ++ [(110 + ci, List.replicate n.toNatClampNeg Value.null)]) else none) = _
  rw [if_pos ⟨hn, hn2, hc⟩, hOf_len, ← hOf_nw]
  simp only [nw_slot]
  have h2 : ∀ k, aTy Ty (110 + ci) k = 2 := fun k => by unfold aTy; rw [if_neg (by omega), if_neg (by omega), if_neg (by omega), if_pos (by omega)]
  simp only [h2]
  show some (_, _ ++ [(110 + ci, List.replicate (jN n) Value.null)]) = some (_, _ ++ [(110 + ci, (List.range (jN n)).map fun k => Value.null)])
  rw [rep_map]
end ST
/-- two states that are the same but for the script -/
def ag (xs : List Int32) (s s' : aS) : Prop := sL s = sL s' ∧ 78 ≤ sL s ∧ (∀ a, a ≠ 0 → sT s a = sT s' a) ∧ (∀ a k, a ≠ 0 → sR s a k = sR s' a k) ∧ (∀ a k, a ≠ 0 → sI s a k = sI s' a k) ∧ (∀ a k, a ≠ 0 → sJ s a k = sJ s' a k) ∧ (∀ a, a < 78 → sT s a = zTt0 xs.length a) ∧ ∀ a k, a < 78 → sI s a k = cCc xs a k
set_option maxRecDepth 100000 in
theorem ag.N {xs : List Int32} {s s' : aS} {c n : Nat} (h : ag xs s s') : ag xs (nw s c n) (nw s' c n) := by
  obtain ⟨h1, h2, h3, h4, h5, h6, h7, h8⟩ := h
  refine ⟨congrArg (· + 1) h1, Nat.le_succ_of_le h2, fun a ha => ?_, fun a k ha => ?_, fun a k ha => ?_, fun a k ha => ?_, fun a ha => ?_, fun a k ha => ?_⟩
  · show (if a = sL s then (c, n) else sT s a) = (if a = sL s' then (c, n) else sT s' a)
    rw [h1, h3 a ha]
  · show (if a = sL s then Value.null else sR s a k) = (if a = sL s' then Value.null else sR s' a k)
    rw [h1, h4 a k ha]
  · show (if a = sL s then 0 else sI s a k) = (if a = sL s' then 0 else sI s' a k)
    rw [h1, h5 a k ha]
  · show (if a = sL s then 0 else sJ s a k) = (if a = sL s' then 0 else sJ s' a k)
    rw [h1, h6 a k ha]
  · show (if a = sL s then (c, n) else sT s a) = _
    rw [if_neg (by omega), h7 a ha]
  · show (if a = sL s then 0 else sI s a k) = _
    rw [if_neg (by omega), h8 a k ha]
set_option maxRecDepth 100000 in
theorem ag.R {xs : List Int32} {s s' : aS} {a k : Nat} {v : Value} (hz : 78 ≤ a) (h : ag xs s s') : ag xs (wR s a k v) (wR s' a k v) := by
  obtain ⟨h1, h2, h3, h4, h5, h6, h7, h8⟩ := h
  refine ⟨h1, h2, h3, fun b j hb => ?_, h5, h6, h7, h8⟩
  show (if b = a ∧ j = k then v else sR s b j) = (if b = a ∧ j = k then v else sR s' b j)
  rw [h4 b j hb]
set_option maxRecDepth 100000 in
theorem ag.I {xs : List Int32} {s s' : aS} {a k : Nat} {v : Int32} (hz : 78 ≤ a) (h : ag xs s s') : ag xs (wI s a k v) (wI s' a k v) := by
  obtain ⟨h1, h2, h3, h4, h5, h6, h7, h8⟩ := h
  refine ⟨h1, h2, h3, h4, fun b j hb => ?_, h6, h7, fun b j hb => ?_⟩
  · show (if b = a ∧ j = k then v else sI s b j) = (if b = a ∧ j = k then v else sI s' b j)
    rw [h5 b j hb]
  · show (if b = a ∧ j = k then v else sI s b j) = _
    rw [if_neg (by omega), h8 b j hb]
set_option maxRecDepth 100000 in
theorem ca0 (xs : List Int32) : ag xs (cs0 xs) (cs0 []) := by
  refine ⟨rfl, Nat.le_refl 78, fun a ha => ?_, fun a k ha => rfl, fun a k ha => ?_, fun a k ha => rfl, fun _ _ => rfl, fun _ _ _ => rfl⟩
  · show zTt0 _ a = zTt0 _ a
    unfold zTt0
    rw [if_neg ha, if_neg ha]
  · show cCc xs a k = cCc [] a k
    unfold cCc
    rw [if_neg ha, if_neg ha]
set_option maxRecDepth 100000 in
theorem cz0 : zP[0]? = some zM0 := rfl
set_option maxRecDepth 100000 in
theorem cz16 : zP[16]? = some zM16 := rfl
set_option maxRecDepth 100000 in
theorem cz17 : zP[17]? = some zM17 := rfl
set_option maxRecDepth 100000 in
theorem cz18 : zP[18]? = some zM18 := rfl
set_option maxRecDepth 100000 in
theorem cz19 : zP[19]? = some zM19 := rfl
set_option maxRecDepth 100000 in
theorem cz20 : zP[20]? = some zM20 := rfl
set_option maxRecDepth 100000 in
theorem cz21 : zP[21]? = some zM21 := rfl
set_option maxRecDepth 100000 in
theorem cz22 : zP[22]? = some zM22 := rfl
set_option maxRecDepth 100000 in
theorem cz23 : zP[23]? = some zM23 := rfl
set_option maxRecDepth 100000 in
theorem cz24 : zP[24]? = some zM24 := rfl
set_option maxRecDepth 100000 in
theorem cz170 : zP[170]? = some zM170 := rfl
def cs1 (xs : List Int32) : aS := nw (cs0 xs) 0 7
def cs2 (xs : List Int32) : aS := nw (cs1 xs) 1 2
def cs3 (xs : List Int32) : aS := nw (cs2 xs) 102 256
def cs4 (xs : List Int32) : aS := wR (cs3 xs) 79 0 (.ref 80)
def cs5 (xs : List Int32) : aS := wR (cs4 xs) 78 0 (.ref 79)
def cs6 (xs : List Int32) : aS := nw (cs5 xs) 2 3
def cs7 (xs : List Int32) : aS := nw (cs6 xs) 111 8
def cs8 (xs : List Int32) : aS := wR (cs7 xs) 81 0 (.ref 82)
def cs9 (xs : List Int32) : aS := nw (cs8 xs) 103 8
def cs10 (xs : List Int32) : aS := wR (cs9 xs) 81 1 (.ref 83)
def cs11 (xs : List Int32) : aS := nw (cs10 xs) 1 2
def cs12 (xs : List Int32) : aS := nw (cs11 xs) 102 31
def cs13 (xs : List Int32) : aS := wR (cs12 xs) 84 0 (.ref 85)
def cs14 (xs : List Int32) : aS := wR (cs13 xs) 82 0 (.ref 84)
def cs15 (xs : List Int32) : aS := nw (cs14 xs) 1 2
def cs16 (xs : List Int32) : aS := nw (cs15 xs) 102 31
def cs17 (xs : List Int32) : aS := wR (cs16 xs) 86 0 (.ref 87)
def cs18 (xs : List Int32) : aS := wR (cs17 xs) 82 1 (.ref 86)
def cs19 (xs : List Int32) : aS := nw (cs18 xs) 1 2
def cs20 (xs : List Int32) : aS := nw (cs19 xs) 102 31
def cs21 (xs : List Int32) : aS := wR (cs20 xs) 88 0 (.ref 89)
def cs22 (xs : List Int32) : aS := wR (cs21 xs) 82 2 (.ref 88)
def cs23 (xs : List Int32) : aS := nw (cs22 xs) 1 2
def cs24 (xs : List Int32) : aS := nw (cs23 xs) 102 31
def cs25 (xs : List Int32) : aS := wR (cs24 xs) 90 0 (.ref 91)
def cs26 (xs : List Int32) : aS := wR (cs25 xs) 82 3 (.ref 90)
def cs27 (xs : List Int32) : aS := nw (cs26 xs) 1 2
def cs28 (xs : List Int32) : aS := nw (cs27 xs) 102 31
def cs29 (xs : List Int32) : aS := wR (cs28 xs) 92 0 (.ref 93)
def cs30 (xs : List Int32) : aS := wR (cs29 xs) 82 4 (.ref 92)
def cs31 (xs : List Int32) : aS := nw (cs30 xs) 1 2
def cs32 (xs : List Int32) : aS := nw (cs31 xs) 102 31
def cs33 (xs : List Int32) : aS := wR (cs32 xs) 94 0 (.ref 95)
def cs34 (xs : List Int32) : aS := wR (cs33 xs) 82 5 (.ref 94)
def cs35 (xs : List Int32) : aS := nw (cs34 xs) 1 2
def cs36 (xs : List Int32) : aS := nw (cs35 xs) 102 31
def cs37 (xs : List Int32) : aS := wR (cs36 xs) 96 0 (.ref 97)
def cs38 (xs : List Int32) : aS := wR (cs37 xs) 82 6 (.ref 96)
def cs39 (xs : List Int32) : aS := nw (cs38 xs) 1 2
def cs40 (xs : List Int32) : aS := nw (cs39 xs) 102 31
def cs41 (xs : List Int32) : aS := wR (cs40 xs) 98 0 (.ref 99)
def cs42 (xs : List Int32) : aS := wR (cs41 xs) 82 7 (.ref 98)
def cs43 (xs : List Int32) : aS := wR (cs42 xs) 78 1 (.ref 81)
def cs44 (xs : List Int32) : aS := nw (cs43 xs) 113 8
def cs45 (xs : List Int32) : aS := wR (cs44 xs) 78 2 (.ref 100)
def cs46 (xs : List Int32) : aS := nw (cs45 xs) 100 8
def cs47 (xs : List Int32) : aS := wR (cs46 xs) 78 3 (.ref 101)
def cs48 (xs : List Int32) : aS := wI (cs47 xs) 101 0 (-1)
def cs49 (xs : List Int32) : aS := wI (cs48 xs) 101 1 (-1)
def cs50 (xs : List Int32) : aS := wI (cs49 xs) 101 2 (-1)
def cs51 (xs : List Int32) : aS := wI (cs50 xs) 101 3 (-1)
def cs52 (xs : List Int32) : aS := wI (cs51 xs) 101 4 (-1)
def cs53 (xs : List Int32) : aS := wI (cs52 xs) 101 5 (-1)
def cs54 (xs : List Int32) : aS := wI (cs53 xs) 101 6 (-1)
def cs55 (xs : List Int32) : aS := wI (cs54 xs) 101 7 (-1)
def cs56 (xs : List Int32) : aS := nw (cs55 xs) 3 3
def cs57 (xs : List Int32) : aS := nw (cs56 xs) 100 1408
def cs58 (xs : List Int32) : aS := wR (cs57 xs) 102 0 (.ref 103)
def cs59 (xs : List Int32) : aS := nw (cs58 xs) 1 2
def cs60 (xs : List Int32) : aS := nw (cs59 xs) 102 256
def cs61 (xs : List Int32) : aS := wR (cs60 xs) 104 0 (.ref 105)
def cs62 (xs : List Int32) : aS := wR (cs61 xs) 102 1 (.ref 104)
def cs63 (xs : List Int32) : aS := wR (cs62 xs) 78 6 (.ref 102)
def cs64 (xs : List Int32) : aS := nw (cs63 xs) 4 13
def cs65 (xs : List Int32) : aS := nw (cs64 xs) 1 2
def cs66 (xs : List Int32) : aS := nw (cs65 xs) 102 256
def cs67 (xs : List Int32) : aS := wR (cs66 xs) 107 0 (.ref 108)
def cs68 (xs : List Int32) : aS := wR (cs67 xs) 106 2 (.ref 107)
def cs69 (xs : List Int32) : aS := nw (cs68 xs) 5 4
def cs70 (xs : List Int32) : aS := wR (cs69 xs) 106 3 (.ref 109)
def cs71 (xs : List Int32) : aS := nw (cs70 xs) 6 3
def cs72 (xs : List Int32) : aS := nw (cs71 xs) 100 128
def cs73 (xs : List Int32) : aS := wR (cs72 xs) 110 0 (.ref 111)
def cs74 (xs : List Int32) : aS := nw (cs73 xs) 100 128
def cs75 (xs : List Int32) : aS := wR (cs74 xs) 110 1 (.ref 112)
def cs76 (xs : List Int32) : aS := wR (cs75 xs) 106 4 (.ref 110)
def cs77 (xs : List Int32) : aS := nw (cs76 xs) 7 4
def cs78 (xs : List Int32) : aS := nw (cs77 xs) 100 32
def cs79 (xs : List Int32) : aS := wR (cs78 xs) 113 0 (.ref 114)
def cs80 (xs : List Int32) : aS := nw (cs79 xs) 100 32
def cs81 (xs : List Int32) : aS := wR (cs80 xs) 113 1 (.ref 115)
def cs82 (xs : List Int32) : aS := nw (cs81 xs) 100 32
def cs83 (xs : List Int32) : aS := wR (cs82 xs) 113 2 (.ref 116)
def cs84 (xs : List Int32) : aS := wR (cs83 xs) 106 5 (.ref 113)
def cs85 (xs : List Int32) : aS := wR (cs84 xs) 106 0 (.ref 79)
def cs86 (xs : List Int32) : aS := wR (cs85 xs) 106 1 (.ref 81)
def cs87 (xs : List Int32) : aS := wR (cs86 xs) 106 6 (.ref 102)
def cs88 (xs : List Int32) : aS := wR (cs87 xs) 78 4 (.ref 106)
def cs89 (xs : List Int32) : aS := nw (cs88 xs) 8 11
def cs90 (xs : List Int32) : aS := nw (cs89 xs) 100 128
def cs91 (xs : List Int32) : aS := wR (cs90 xs) 117 1 (.ref 118)
def cs92 (xs : List Int32) : aS := nw (cs91 xs) 100 128
def cs93 (xs : List Int32) : aS := wR (cs92 xs) 117 2 (.ref 119)
def cs94 (xs : List Int32) : aS := nw (cs93 xs) 103 128
def cs95 (xs : List Int32) : aS := wR (cs94 xs) 117 3 (.ref 120)
def cs96 (xs : List Int32) : aS := wR (cs95 xs) 117 0 (.ref 81)
def cs97 (xs : List Int32) : aS := wR (cs96 xs) 117 5 (.ref 102)
def cs98 (xs : List Int32) : aS := wR (cs97 xs) 78 5 (.ref 117)
def cs99 (xs : List Int32) : aS := nw (cs98 xs) 9 45
def cs100 (xs : List Int32) : aS := nw (cs99 xs) 100 256
def cs101 (xs : List Int32) : aS := wR (cs100 xs) 121 2 (.ref 122)
def cs102 (xs : List Int32) : aS := nw (cs101 xs) 100 8
def cs103 (xs : List Int32) : aS := wR (cs102 xs) 121 4 (.ref 123)
def cs104 (xs : List Int32) : aS := nw (cs103 xs) 100 256
def cs105 (xs : List Int32) : aS := wR (cs104 xs) 121 5 (.ref 124)
def cs106 (xs : List Int32) : aS := nw (cs105 xs) 103 8
def cs107 (xs : List Int32) : aS := wR (cs106 xs) 121 6 (.ref 125)
def cs108 (xs : List Int32) : aS := nw (cs107 xs) 100 8
def cs109 (xs : List Int32) : aS := wR (cs108 xs) 121 7 (.ref 126)
def cs110 (xs : List Int32) : aS := nw (cs109 xs) 100 9
def cs111 (xs : List Int32) : aS := wR (cs110 xs) 121 8 (.ref 127)
def cs112 (xs : List Int32) : aS := nw (cs111 xs) 100 1152
def cs113 (xs : List Int32) : aS := wR (cs112 xs) 121 9 (.ref 128)
def cs114 (xs : List Int32) : aS := nw (cs113 xs) 100 1152
def cs115 (xs : List Int32) : aS := wR (cs114 xs) 121 10 (.ref 129)
def cs116 (xs : List Int32) : aS := nw (cs115 xs) 100 1152
def cs117 (xs : List Int32) : aS := wR (cs116 xs) 121 11 (.ref 130)
def cs118 (xs : List Int32) : aS := nw (cs117 xs) 100 1152
def cs119 (xs : List Int32) : aS := wR (cs118 xs) 121 12 (.ref 131)
def cs120 (xs : List Int32) : aS := nw (cs119 xs) 100 1152
def cs121 (xs : List Int32) : aS := wR (cs120 xs) 121 13 (.ref 132)
def cs122 (xs : List Int32) : aS := nw (cs121 xs) 100 1152
def cs123 (xs : List Int32) : aS := wR (cs122 xs) 121 14 (.ref 133)
def cs124 (xs : List Int32) : aS := nw (cs123 xs) 100 1152
def cs125 (xs : List Int32) : aS := wR (cs124 xs) 121 15 (.ref 134)
def cs126 (xs : List Int32) : aS := nw (cs125 xs) 100 1152
def cs127 (xs : List Int32) : aS := wR (cs126 xs) 121 16 (.ref 135)
def cs128 (xs : List Int32) : aS := nw (cs127 xs) 100 1152
def cs129 (xs : List Int32) : aS := wR (cs128 xs) 121 17 (.ref 136)
def cs130 (xs : List Int32) : aS := nw (cs129 xs) 100 1152
def cs131 (xs : List Int32) : aS := wR (cs130 xs) 121 18 (.ref 137)
def cs132 (xs : List Int32) : aS := nw (cs131 xs) 100 1152
def cs133 (xs : List Int32) : aS := wR (cs132 xs) 121 19 (.ref 138)
def cs134 (xs : List Int32) : aS := nw (cs133 xs) 100 2304
def cs135 (xs : List Int32) : aS := wR (cs134 xs) 121 20 (.ref 139)
def cs136 (xs : List Int32) : aS := nw (cs135 xs) 100 128
def cs137 (xs : List Int32) : aS := wR (cs136 xs) 121 22 (.ref 140)
def cs138 (xs : List Int32) : aS := nw (cs137 xs) 100 128
def cs139 (xs : List Int32) : aS := wR (cs138 xs) 121 23 (.ref 141)
def cs140 (xs : List Int32) : aS := nw (cs139 xs) 100 128
def cs141 (xs : List Int32) : aS := wR (cs140 xs) 121 24 (.ref 142)
def cs142 (xs : List Int32) : aS := nw (cs141 xs) 100 128
def cs143 (xs : List Int32) : aS := wR (cs142 xs) 121 25 (.ref 143)
def cs144 (xs : List Int32) : aS := nw (cs143 xs) 100 130
def cs145 (xs : List Int32) : aS := wR (cs144 xs) 121 28 (.ref 144)
def cs146 (xs : List Int32) : aS := nw (cs145 xs) 100 300
def cs147 (xs : List Int32) : aS := wR (cs146 xs) 121 30 (.ref 145)
def cs148 (xs : List Int32) : aS := nw (cs147 xs) 100 300
def cs149 (xs : List Int32) : aS := wR (cs148 xs) 121 31 (.ref 146)
def cs150 (xs : List Int32) : aS := nw (cs149 xs) 100 256
def cs151 (xs : List Int32) : aS := wR (cs150 xs) 121 37 (.ref 147)
def cs152 (xs : List Int32) : aS := nw (cs151 xs) 104 1
set_option maxRecDepth 100000 in
theorem cq1 {sio : Bool} {d : Nat} (xs : List Int32) : A zP (zCs (sv sio)) zK zTy (d + 1) 17 0 [some (.ref 79), some (.int 256)] [] (cs2 xs) (.inl none, cs4 xs) := by
  refine A.run cz17 1 (i' := 1) (ls' := [some (.ref 79), some (.int 256)]) (st' := [.ref 79]) rfl ?_
  refine A.oi cz17 (eq_true (show 0 ≤ 8 by decide)) (show zM17.2.2.2.2.2[1]? = some (1, 3, .invokespecial 3, [1]) from rfl) ?_
  refine A.run cz17 4 (i' := 8) (ls' := [some (.ref 79), some (.int 256)]) (st' := [.int 256, .ref 79]) rfl ?_
  refine A.nb (gI_of cz17 (e := (14, 2, .newarray .char, [])) rfl) (by decide) (by decide) (by decide) ?_
  show A zP (zCs (sv sio)) zK zTy _ _ _ _ _ (cs3 xs) _
  refine A.pr (n := 2) (gI_of cz17 (e := (16, 3, .putfield 9, [1, 0, 2])) rfl) (show 79 < 81 by decide) (by decide) rfl (by decide) rfl rfl ?_
  show A zP (zCs (sv sio)) zK zTy _ _ _ _ _ (cs4 xs) _
  exact A.rv cz17 (show zM17.2.2.2.2.2[10]? = some (19, 1, .return_, []) from rfl) rfl
set_option maxRecDepth 100000 in
theorem cq2 {sio : Bool} {d : Nat} (xs : List Int32) : A zP (zCs (sv sio)) zK zTy (d + 1) 17 0 [some (.ref 84), some (.int 31)] [] (cs11 xs) (.inl none, cs13 xs) := by
  refine A.run cz17 1 (i' := 1) (ls' := [some (.ref 84), some (.int 31)]) (st' := [.ref 84]) rfl ?_
  refine A.oi cz17 (eq_true (show 0 ≤ 8 by decide)) (show zM17.2.2.2.2.2[1]? = some (1, 3, .invokespecial 3, [1]) from rfl) ?_
  refine A.run cz17 4 (i' := 8) (ls' := [some (.ref 84), some (.int 31)]) (st' := [.int 31, .ref 84]) rfl ?_
  refine A.nb (gI_of cz17 (e := (14, 2, .newarray .char, [])) rfl) (by decide) (by decide) (by decide) ?_
  show A zP (zCs (sv sio)) zK zTy _ _ _ _ _ (cs12 xs) _
  refine A.pr (n := 2) (gI_of cz17 (e := (16, 3, .putfield 9, [1, 0, 2])) rfl) (show 84 < 86 by decide) (by decide) rfl (by decide) rfl rfl ?_
  show A zP (zCs (sv sio)) zK zTy _ _ _ _ _ (cs13 xs) _
  exact A.rv cz17 (show zM17.2.2.2.2.2[10]? = some (19, 1, .return_, []) from rfl) rfl
set_option maxRecDepth 100000 in
theorem cq3 {sio : Bool} {d : Nat} (xs : List Int32) : A zP (zCs (sv sio)) zK zTy (d + 1) 17 0 [some (.ref 86), some (.int 31)] [] (cs15 xs) (.inl none, cs17 xs) := by
  refine A.run cz17 1 (i' := 1) (ls' := [some (.ref 86), some (.int 31)]) (st' := [.ref 86]) rfl ?_
  refine A.oi cz17 (eq_true (show 0 ≤ 8 by decide)) (show zM17.2.2.2.2.2[1]? = some (1, 3, .invokespecial 3, [1]) from rfl) ?_
  refine A.run cz17 4 (i' := 8) (ls' := [some (.ref 86), some (.int 31)]) (st' := [.int 31, .ref 86]) rfl ?_
  refine A.nb (gI_of cz17 (e := (14, 2, .newarray .char, [])) rfl) (by decide) (by decide) (by decide) ?_
  show A zP (zCs (sv sio)) zK zTy _ _ _ _ _ (cs16 xs) _
  refine A.pr (n := 2) (gI_of cz17 (e := (16, 3, .putfield 9, [1, 0, 2])) rfl) (show 86 < 88 by decide) (by decide) rfl (by decide) rfl rfl ?_
  show A zP (zCs (sv sio)) zK zTy _ _ _ _ _ (cs17 xs) _
  exact A.rv cz17 (show zM17.2.2.2.2.2[10]? = some (19, 1, .return_, []) from rfl) rfl
set_option maxRecDepth 100000 in
theorem cq4 {sio : Bool} {d : Nat} (xs : List Int32) : A zP (zCs (sv sio)) zK zTy (d + 1) 17 0 [some (.ref 88), some (.int 31)] [] (cs19 xs) (.inl none, cs21 xs) := by
  refine A.run cz17 1 (i' := 1) (ls' := [some (.ref 88), some (.int 31)]) (st' := [.ref 88]) rfl ?_
  refine A.oi cz17 (eq_true (show 0 ≤ 8 by decide)) (show zM17.2.2.2.2.2[1]? = some (1, 3, .invokespecial 3, [1]) from rfl) ?_
  refine A.run cz17 4 (i' := 8) (ls' := [some (.ref 88), some (.int 31)]) (st' := [.int 31, .ref 88]) rfl ?_
  refine A.nb (gI_of cz17 (e := (14, 2, .newarray .char, [])) rfl) (by decide) (by decide) (by decide) ?_
  show A zP (zCs (sv sio)) zK zTy _ _ _ _ _ (cs20 xs) _
  refine A.pr (n := 2) (gI_of cz17 (e := (16, 3, .putfield 9, [1, 0, 2])) rfl) (show 88 < 90 by decide) (by decide) rfl (by decide) rfl rfl ?_
  show A zP (zCs (sv sio)) zK zTy _ _ _ _ _ (cs21 xs) _
  exact A.rv cz17 (show zM17.2.2.2.2.2[10]? = some (19, 1, .return_, []) from rfl) rfl
set_option maxRecDepth 100000 in
theorem cq5 {sio : Bool} {d : Nat} (xs : List Int32) : A zP (zCs (sv sio)) zK zTy (d + 1) 17 0 [some (.ref 90), some (.int 31)] [] (cs23 xs) (.inl none, cs25 xs) := by
  refine A.run cz17 1 (i' := 1) (ls' := [some (.ref 90), some (.int 31)]) (st' := [.ref 90]) rfl ?_
  refine A.oi cz17 (eq_true (show 0 ≤ 8 by decide)) (show zM17.2.2.2.2.2[1]? = some (1, 3, .invokespecial 3, [1]) from rfl) ?_
  refine A.run cz17 4 (i' := 8) (ls' := [some (.ref 90), some (.int 31)]) (st' := [.int 31, .ref 90]) rfl ?_
  refine A.nb (gI_of cz17 (e := (14, 2, .newarray .char, [])) rfl) (by decide) (by decide) (by decide) ?_
  show A zP (zCs (sv sio)) zK zTy _ _ _ _ _ (cs24 xs) _
  refine A.pr (n := 2) (gI_of cz17 (e := (16, 3, .putfield 9, [1, 0, 2])) rfl) (show 90 < 92 by decide) (by decide) rfl (by decide) rfl rfl ?_
  show A zP (zCs (sv sio)) zK zTy _ _ _ _ _ (cs25 xs) _
  exact A.rv cz17 (show zM17.2.2.2.2.2[10]? = some (19, 1, .return_, []) from rfl) rfl
set_option maxRecDepth 100000 in
theorem cq6 {sio : Bool} {d : Nat} (xs : List Int32) : A zP (zCs (sv sio)) zK zTy (d + 1) 17 0 [some (.ref 92), some (.int 31)] [] (cs27 xs) (.inl none, cs29 xs) := by
  refine A.run cz17 1 (i' := 1) (ls' := [some (.ref 92), some (.int 31)]) (st' := [.ref 92]) rfl ?_
  refine A.oi cz17 (eq_true (show 0 ≤ 8 by decide)) (show zM17.2.2.2.2.2[1]? = some (1, 3, .invokespecial 3, [1]) from rfl) ?_
  refine A.run cz17 4 (i' := 8) (ls' := [some (.ref 92), some (.int 31)]) (st' := [.int 31, .ref 92]) rfl ?_
  refine A.nb (gI_of cz17 (e := (14, 2, .newarray .char, [])) rfl) (by decide) (by decide) (by decide) ?_
  show A zP (zCs (sv sio)) zK zTy _ _ _ _ _ (cs28 xs) _
  refine A.pr (n := 2) (gI_of cz17 (e := (16, 3, .putfield 9, [1, 0, 2])) rfl) (show 92 < 94 by decide) (by decide) rfl (by decide) rfl rfl ?_
  show A zP (zCs (sv sio)) zK zTy _ _ _ _ _ (cs29 xs) _
  exact A.rv cz17 (show zM17.2.2.2.2.2[10]? = some (19, 1, .return_, []) from rfl) rfl
set_option maxRecDepth 100000 in
theorem cq7 {sio : Bool} {d : Nat} (xs : List Int32) : A zP (zCs (sv sio)) zK zTy (d + 1) 17 0 [some (.ref 94), some (.int 31)] [] (cs31 xs) (.inl none, cs33 xs) := by
  refine A.run cz17 1 (i' := 1) (ls' := [some (.ref 94), some (.int 31)]) (st' := [.ref 94]) rfl ?_
  refine A.oi cz17 (eq_true (show 0 ≤ 8 by decide)) (show zM17.2.2.2.2.2[1]? = some (1, 3, .invokespecial 3, [1]) from rfl) ?_
  refine A.run cz17 4 (i' := 8) (ls' := [some (.ref 94), some (.int 31)]) (st' := [.int 31, .ref 94]) rfl ?_
  refine A.nb (gI_of cz17 (e := (14, 2, .newarray .char, [])) rfl) (by decide) (by decide) (by decide) ?_
  show A zP (zCs (sv sio)) zK zTy _ _ _ _ _ (cs32 xs) _
  refine A.pr (n := 2) (gI_of cz17 (e := (16, 3, .putfield 9, [1, 0, 2])) rfl) (show 94 < 96 by decide) (by decide) rfl (by decide) rfl rfl ?_
  show A zP (zCs (sv sio)) zK zTy _ _ _ _ _ (cs33 xs) _
  exact A.rv cz17 (show zM17.2.2.2.2.2[10]? = some (19, 1, .return_, []) from rfl) rfl
set_option maxRecDepth 100000 in
theorem cq8 {sio : Bool} {d : Nat} (xs : List Int32) : A zP (zCs (sv sio)) zK zTy (d + 1) 17 0 [some (.ref 96), some (.int 31)] [] (cs35 xs) (.inl none, cs37 xs) := by
  refine A.run cz17 1 (i' := 1) (ls' := [some (.ref 96), some (.int 31)]) (st' := [.ref 96]) rfl ?_
  refine A.oi cz17 (eq_true (show 0 ≤ 8 by decide)) (show zM17.2.2.2.2.2[1]? = some (1, 3, .invokespecial 3, [1]) from rfl) ?_
  refine A.run cz17 4 (i' := 8) (ls' := [some (.ref 96), some (.int 31)]) (st' := [.int 31, .ref 96]) rfl ?_
  refine A.nb (gI_of cz17 (e := (14, 2, .newarray .char, [])) rfl) (by decide) (by decide) (by decide) ?_
  show A zP (zCs (sv sio)) zK zTy _ _ _ _ _ (cs36 xs) _
  refine A.pr (n := 2) (gI_of cz17 (e := (16, 3, .putfield 9, [1, 0, 2])) rfl) (show 96 < 98 by decide) (by decide) rfl (by decide) rfl rfl ?_
  show A zP (zCs (sv sio)) zK zTy _ _ _ _ _ (cs37 xs) _
  exact A.rv cz17 (show zM17.2.2.2.2.2[10]? = some (19, 1, .return_, []) from rfl) rfl
set_option maxRecDepth 100000 in
theorem cq9 {sio : Bool} {d : Nat} (xs : List Int32) : A zP (zCs (sv sio)) zK zTy (d + 1) 17 0 [some (.ref 98), some (.int 31)] [] (cs39 xs) (.inl none, cs41 xs) := by
  refine A.run cz17 1 (i' := 1) (ls' := [some (.ref 98), some (.int 31)]) (st' := [.ref 98]) rfl ?_
  refine A.oi cz17 (eq_true (show 0 ≤ 8 by decide)) (show zM17.2.2.2.2.2[1]? = some (1, 3, .invokespecial 3, [1]) from rfl) ?_
  refine A.run cz17 4 (i' := 8) (ls' := [some (.ref 98), some (.int 31)]) (st' := [.int 31, .ref 98]) rfl ?_
  refine A.nb (gI_of cz17 (e := (14, 2, .newarray .char, [])) rfl) (by decide) (by decide) (by decide) ?_
  show A zP (zCs (sv sio)) zK zTy _ _ _ _ _ (cs40 xs) _
  refine A.pr (n := 2) (gI_of cz17 (e := (16, 3, .putfield 9, [1, 0, 2])) rfl) (show 98 < 100 by decide) (by decide) rfl (by decide) rfl rfl ?_
  show A zP (zCs (sv sio)) zK zTy _ _ _ _ _ (cs41 xs) _
  exact A.rv cz17 (show zM17.2.2.2.2.2[10]? = some (19, 1, .return_, []) from rfl) rfl
set_option maxRecDepth 100000 in
theorem cq10 {sio : Bool} {d : Nat} (xs : List Int32) : A zP (zCs (sv sio)) zK zTy (d + 2) 18 0 [some (.ref 81), none] [] (cs6 xs) (.inl none, cs42 xs) := by
  refine A.run cz18 1 (i' := 1) (ls' := [some (.ref 81), none]) (st' := [.ref 81]) rfl ?_
  refine A.oi cz18 (eq_true (show 0 ≤ 8 by decide)) (show zM18.2.2.2.2.2[1]? = some (1, 3, .invokespecial 3, [1]) from rfl) ?_
  refine A.run cz18 2 (i' := 4) (ls' := [some (.ref 81), none]) (st' := [.int 8, .ref 81]) rfl ?_
  refine A.nr (gI_of cz18 (e := (7, 3, .anewarray 9, [1])) rfl) (by decide) (by decide) (by decide) ?_
  show A zP (zCs (sv sio)) zK zTy _ _ _ _ _ (cs7 xs) _
  refine A.pr (n := 3) (gI_of cz18 (e := (10, 3, .putfield 11, [2, 0, 2])) rfl) (show 81 < 83 by decide) (by decide) rfl (by decide) rfl rfl ?_
  show A zP (zCs (sv sio)) zK zTy _ _ _ _ _ (cs8 xs) _
  refine A.run cz18 2 (i' := 8) (ls' := [some (.ref 81), none]) (st' := [.int 8, .ref 81]) rfl ?_
  refine A.nb (gI_of cz18 (e := (16, 2, .newarray .boolean, [])) rfl) (by decide) (by decide) (by decide) ?_
  show A zP (zCs (sv sio)) zK zTy _ _ _ _ _ (cs9 xs) _
  refine A.pr (n := 3) (gI_of cz18 (e := (18, 3, .putfield 17, [2, 1, 2])) rfl) (show 81 < 84 by decide) (by decide) rfl (by decide) rfl rfl ?_
  show A zP (zCs (sv sio)) zK zTy _ _ _ _ _ (cs10 xs) _
  refine A.run cz18 4 (i' := 14) (ls' := [some (.ref 81), some (.int 0)]) (st' := [.ref 81, .int 0]) rfl ?_
  refine A.gf (v := .ref 82) (n := 3) (gI_of cz18 (e := (25, 3, .getfield 11, [2, 0])) rfl) (show 81 < 84 by decide) rfl (by decide) rfl ?_
  refine A.al (c := 111) (n := 8) (gI_of cz18 (e := (28, 1, .arraylength, [])) rfl) (show 82 < 84 by decide) rfl (by decide) ?_
  refine A.run cz18 2 (i' := 18) (ls' := [some (.ref 81), some (.int 0)]) (st' := [.ref 81]) rfl ?_
  refine A.gf (v := .ref 82) (n := 3) (gI_of cz18 (e := (33, 3, .getfield 11, [2, 0])) rfl) (show 81 < 84 by decide) rfl (by decide) rfl ?_
  refine A.run cz18 1 (i' := 20) (ls' := [some (.ref 81), some (.int 0)]) (st' := [.int 0, .ref 82]) rfl ?_
  refine A.nwd (gI_of cz18 (e := (37, 3, .new 9, [1, 2, 0])) rfl) (by decide) rfl ?_
  show A zP (zCs (sv sio)) zK zTy _ _ _ _ _ (cs11 xs) _
  refine A.run cz18 2 (i' := 23) (ls' := [some (.ref 81), some (.int 0)]) (st' := [.int 31, .ref 84, .ref 84, .int 0, .ref 82]) rfl ?_
  refine A.c (gC_sp (x := 84) cz18 (show zM18.2.2.2.2.2[23]? = some (43, 3, .invokespecial 21, [0, 17, 1]) from rfl) cz17 rfl (show aCr 1 84 [.int 31, .ref 84, .ref 84, .int 0, .ref 82] 2 = some ([some (.ref 84), some (.int 31)], [.ref 84, .int 0, .ref 82]) from rfl)) (cq2 xs) ?_
  show A zP (zCs (sv sio)) zK zTy _ _ _ _ _ (cs13 xs) _
  refine A.as (n := 8) (nb := 2) (gI_of cz18 (e := (46, 1, .aastore, [1])) rfl) (show 82 < 86 by decide) (by decide) (by decide) rfl (show 84 < 86 by decide) rfl (by decide) ?_
  show A zP (zCs (sv sio)) zK zTy _ _ _ _ _ (cs14 xs) _
  refine A.run cz18 4 (i' := 14) (ls' := [some (.ref 81), some (.int 1)]) (st' := [.ref 81, .int 1]) rfl ?_
  refine A.gf (v := .ref 82) (n := 3) (gI_of cz18 (e := (25, 3, .getfield 11, [2, 0])) rfl) (show 81 < 86 by decide) rfl (by decide) rfl ?_
  refine A.al (c := 111) (n := 8) (gI_of cz18 (e := (28, 1, .arraylength, [])) rfl) (show 82 < 86 by decide) rfl (by decide) ?_
  refine A.run cz18 2 (i' := 18) (ls' := [some (.ref 81), some (.int 1)]) (st' := [.ref 81]) rfl ?_
  refine A.gf (v := .ref 82) (n := 3) (gI_of cz18 (e := (33, 3, .getfield 11, [2, 0])) rfl) (show 81 < 86 by decide) rfl (by decide) rfl ?_
  refine A.run cz18 1 (i' := 20) (ls' := [some (.ref 81), some (.int 1)]) (st' := [.int 1, .ref 82]) rfl ?_
  refine A.nwd (gI_of cz18 (e := (37, 3, .new 9, [1, 2, 0])) rfl) (by decide) rfl ?_
  show A zP (zCs (sv sio)) zK zTy _ _ _ _ _ (cs15 xs) _
  refine A.run cz18 2 (i' := 23) (ls' := [some (.ref 81), some (.int 1)]) (st' := [.int 31, .ref 86, .ref 86, .int 1, .ref 82]) rfl ?_
  refine A.c (gC_sp (x := 86) cz18 (show zM18.2.2.2.2.2[23]? = some (43, 3, .invokespecial 21, [0, 17, 1]) from rfl) cz17 rfl (show aCr 1 86 [.int 31, .ref 86, .ref 86, .int 1, .ref 82] 2 = some ([some (.ref 86), some (.int 31)], [.ref 86, .int 1, .ref 82]) from rfl)) (cq3 xs) ?_
  show A zP (zCs (sv sio)) zK zTy _ _ _ _ _ (cs17 xs) _
  refine A.as (n := 8) (nb := 2) (gI_of cz18 (e := (46, 1, .aastore, [1])) rfl) (show 82 < 88 by decide) (by decide) (by decide) rfl (show 86 < 88 by decide) rfl (by decide) ?_
  show A zP (zCs (sv sio)) zK zTy _ _ _ _ _ (cs18 xs) _
  refine A.run cz18 4 (i' := 14) (ls' := [some (.ref 81), some (.int 2)]) (st' := [.ref 81, .int 2]) rfl ?_
  refine A.gf (v := .ref 82) (n := 3) (gI_of cz18 (e := (25, 3, .getfield 11, [2, 0])) rfl) (show 81 < 88 by decide) rfl (by decide) rfl ?_
  refine A.al (c := 111) (n := 8) (gI_of cz18 (e := (28, 1, .arraylength, [])) rfl) (show 82 < 88 by decide) rfl (by decide) ?_
  refine A.run cz18 2 (i' := 18) (ls' := [some (.ref 81), some (.int 2)]) (st' := [.ref 81]) rfl ?_
  refine A.gf (v := .ref 82) (n := 3) (gI_of cz18 (e := (33, 3, .getfield 11, [2, 0])) rfl) (show 81 < 88 by decide) rfl (by decide) rfl ?_
  refine A.run cz18 1 (i' := 20) (ls' := [some (.ref 81), some (.int 2)]) (st' := [.int 2, .ref 82]) rfl ?_
  refine A.nwd (gI_of cz18 (e := (37, 3, .new 9, [1, 2, 0])) rfl) (by decide) rfl ?_
  show A zP (zCs (sv sio)) zK zTy _ _ _ _ _ (cs19 xs) _
  refine A.run cz18 2 (i' := 23) (ls' := [some (.ref 81), some (.int 2)]) (st' := [.int 31, .ref 88, .ref 88, .int 2, .ref 82]) rfl ?_
  refine A.c (gC_sp (x := 88) cz18 (show zM18.2.2.2.2.2[23]? = some (43, 3, .invokespecial 21, [0, 17, 1]) from rfl) cz17 rfl (show aCr 1 88 [.int 31, .ref 88, .ref 88, .int 2, .ref 82] 2 = some ([some (.ref 88), some (.int 31)], [.ref 88, .int 2, .ref 82]) from rfl)) (cq4 xs) ?_
  show A zP (zCs (sv sio)) zK zTy _ _ _ _ _ (cs21 xs) _
  refine A.as (n := 8) (nb := 2) (gI_of cz18 (e := (46, 1, .aastore, [1])) rfl) (show 82 < 90 by decide) (by decide) (by decide) rfl (show 88 < 90 by decide) rfl (by decide) ?_
  show A zP (zCs (sv sio)) zK zTy _ _ _ _ _ (cs22 xs) _
  refine A.run cz18 4 (i' := 14) (ls' := [some (.ref 81), some (.int 3)]) (st' := [.ref 81, .int 3]) rfl ?_
  refine A.gf (v := .ref 82) (n := 3) (gI_of cz18 (e := (25, 3, .getfield 11, [2, 0])) rfl) (show 81 < 90 by decide) rfl (by decide) rfl ?_
  refine A.al (c := 111) (n := 8) (gI_of cz18 (e := (28, 1, .arraylength, [])) rfl) (show 82 < 90 by decide) rfl (by decide) ?_
  refine A.run cz18 2 (i' := 18) (ls' := [some (.ref 81), some (.int 3)]) (st' := [.ref 81]) rfl ?_
  refine A.gf (v := .ref 82) (n := 3) (gI_of cz18 (e := (33, 3, .getfield 11, [2, 0])) rfl) (show 81 < 90 by decide) rfl (by decide) rfl ?_
  refine A.run cz18 1 (i' := 20) (ls' := [some (.ref 81), some (.int 3)]) (st' := [.int 3, .ref 82]) rfl ?_
  refine A.nwd (gI_of cz18 (e := (37, 3, .new 9, [1, 2, 0])) rfl) (by decide) rfl ?_
  show A zP (zCs (sv sio)) zK zTy _ _ _ _ _ (cs23 xs) _
  refine A.run cz18 2 (i' := 23) (ls' := [some (.ref 81), some (.int 3)]) (st' := [.int 31, .ref 90, .ref 90, .int 3, .ref 82]) rfl ?_
  refine A.c (gC_sp (x := 90) cz18 (show zM18.2.2.2.2.2[23]? = some (43, 3, .invokespecial 21, [0, 17, 1]) from rfl) cz17 rfl (show aCr 1 90 [.int 31, .ref 90, .ref 90, .int 3, .ref 82] 2 = some ([some (.ref 90), some (.int 31)], [.ref 90, .int 3, .ref 82]) from rfl)) (cq5 xs) ?_
  show A zP (zCs (sv sio)) zK zTy _ _ _ _ _ (cs25 xs) _
  refine A.as (n := 8) (nb := 2) (gI_of cz18 (e := (46, 1, .aastore, [1])) rfl) (show 82 < 92 by decide) (by decide) (by decide) rfl (show 90 < 92 by decide) rfl (by decide) ?_
  show A zP (zCs (sv sio)) zK zTy _ _ _ _ _ (cs26 xs) _
  refine A.run cz18 4 (i' := 14) (ls' := [some (.ref 81), some (.int 4)]) (st' := [.ref 81, .int 4]) rfl ?_
  refine A.gf (v := .ref 82) (n := 3) (gI_of cz18 (e := (25, 3, .getfield 11, [2, 0])) rfl) (show 81 < 92 by decide) rfl (by decide) rfl ?_
  refine A.al (c := 111) (n := 8) (gI_of cz18 (e := (28, 1, .arraylength, [])) rfl) (show 82 < 92 by decide) rfl (by decide) ?_
  refine A.run cz18 2 (i' := 18) (ls' := [some (.ref 81), some (.int 4)]) (st' := [.ref 81]) rfl ?_
  refine A.gf (v := .ref 82) (n := 3) (gI_of cz18 (e := (33, 3, .getfield 11, [2, 0])) rfl) (show 81 < 92 by decide) rfl (by decide) rfl ?_
  refine A.run cz18 1 (i' := 20) (ls' := [some (.ref 81), some (.int 4)]) (st' := [.int 4, .ref 82]) rfl ?_
  refine A.nwd (gI_of cz18 (e := (37, 3, .new 9, [1, 2, 0])) rfl) (by decide) rfl ?_
  show A zP (zCs (sv sio)) zK zTy _ _ _ _ _ (cs27 xs) _
  refine A.run cz18 2 (i' := 23) (ls' := [some (.ref 81), some (.int 4)]) (st' := [.int 31, .ref 92, .ref 92, .int 4, .ref 82]) rfl ?_
  refine A.c (gC_sp (x := 92) cz18 (show zM18.2.2.2.2.2[23]? = some (43, 3, .invokespecial 21, [0, 17, 1]) from rfl) cz17 rfl (show aCr 1 92 [.int 31, .ref 92, .ref 92, .int 4, .ref 82] 2 = some ([some (.ref 92), some (.int 31)], [.ref 92, .int 4, .ref 82]) from rfl)) (cq6 xs) ?_
  show A zP (zCs (sv sio)) zK zTy _ _ _ _ _ (cs29 xs) _
  refine A.as (n := 8) (nb := 2) (gI_of cz18 (e := (46, 1, .aastore, [1])) rfl) (show 82 < 94 by decide) (by decide) (by decide) rfl (show 92 < 94 by decide) rfl (by decide) ?_
  show A zP (zCs (sv sio)) zK zTy _ _ _ _ _ (cs30 xs) _
  refine A.run cz18 4 (i' := 14) (ls' := [some (.ref 81), some (.int 5)]) (st' := [.ref 81, .int 5]) rfl ?_
  refine A.gf (v := .ref 82) (n := 3) (gI_of cz18 (e := (25, 3, .getfield 11, [2, 0])) rfl) (show 81 < 94 by decide) rfl (by decide) rfl ?_
  refine A.al (c := 111) (n := 8) (gI_of cz18 (e := (28, 1, .arraylength, [])) rfl) (show 82 < 94 by decide) rfl (by decide) ?_
  refine A.run cz18 2 (i' := 18) (ls' := [some (.ref 81), some (.int 5)]) (st' := [.ref 81]) rfl ?_
  refine A.gf (v := .ref 82) (n := 3) (gI_of cz18 (e := (33, 3, .getfield 11, [2, 0])) rfl) (show 81 < 94 by decide) rfl (by decide) rfl ?_
  refine A.run cz18 1 (i' := 20) (ls' := [some (.ref 81), some (.int 5)]) (st' := [.int 5, .ref 82]) rfl ?_
  refine A.nwd (gI_of cz18 (e := (37, 3, .new 9, [1, 2, 0])) rfl) (by decide) rfl ?_
  show A zP (zCs (sv sio)) zK zTy _ _ _ _ _ (cs31 xs) _
  refine A.run cz18 2 (i' := 23) (ls' := [some (.ref 81), some (.int 5)]) (st' := [.int 31, .ref 94, .ref 94, .int 5, .ref 82]) rfl ?_
  refine A.c (gC_sp (x := 94) cz18 (show zM18.2.2.2.2.2[23]? = some (43, 3, .invokespecial 21, [0, 17, 1]) from rfl) cz17 rfl (show aCr 1 94 [.int 31, .ref 94, .ref 94, .int 5, .ref 82] 2 = some ([some (.ref 94), some (.int 31)], [.ref 94, .int 5, .ref 82]) from rfl)) (cq7 xs) ?_
  show A zP (zCs (sv sio)) zK zTy _ _ _ _ _ (cs33 xs) _
  refine A.as (n := 8) (nb := 2) (gI_of cz18 (e := (46, 1, .aastore, [1])) rfl) (show 82 < 96 by decide) (by decide) (by decide) rfl (show 94 < 96 by decide) rfl (by decide) ?_
  show A zP (zCs (sv sio)) zK zTy _ _ _ _ _ (cs34 xs) _
  refine A.run cz18 4 (i' := 14) (ls' := [some (.ref 81), some (.int 6)]) (st' := [.ref 81, .int 6]) rfl ?_
  refine A.gf (v := .ref 82) (n := 3) (gI_of cz18 (e := (25, 3, .getfield 11, [2, 0])) rfl) (show 81 < 96 by decide) rfl (by decide) rfl ?_
  refine A.al (c := 111) (n := 8) (gI_of cz18 (e := (28, 1, .arraylength, [])) rfl) (show 82 < 96 by decide) rfl (by decide) ?_
  refine A.run cz18 2 (i' := 18) (ls' := [some (.ref 81), some (.int 6)]) (st' := [.ref 81]) rfl ?_
  refine A.gf (v := .ref 82) (n := 3) (gI_of cz18 (e := (33, 3, .getfield 11, [2, 0])) rfl) (show 81 < 96 by decide) rfl (by decide) rfl ?_
  refine A.run cz18 1 (i' := 20) (ls' := [some (.ref 81), some (.int 6)]) (st' := [.int 6, .ref 82]) rfl ?_
  refine A.nwd (gI_of cz18 (e := (37, 3, .new 9, [1, 2, 0])) rfl) (by decide) rfl ?_
  show A zP (zCs (sv sio)) zK zTy _ _ _ _ _ (cs35 xs) _
  refine A.run cz18 2 (i' := 23) (ls' := [some (.ref 81), some (.int 6)]) (st' := [.int 31, .ref 96, .ref 96, .int 6, .ref 82]) rfl ?_
  refine A.c (gC_sp (x := 96) cz18 (show zM18.2.2.2.2.2[23]? = some (43, 3, .invokespecial 21, [0, 17, 1]) from rfl) cz17 rfl (show aCr 1 96 [.int 31, .ref 96, .ref 96, .int 6, .ref 82] 2 = some ([some (.ref 96), some (.int 31)], [.ref 96, .int 6, .ref 82]) from rfl)) (cq8 xs) ?_
  show A zP (zCs (sv sio)) zK zTy _ _ _ _ _ (cs37 xs) _
  refine A.as (n := 8) (nb := 2) (gI_of cz18 (e := (46, 1, .aastore, [1])) rfl) (show 82 < 98 by decide) (by decide) (by decide) rfl (show 96 < 98 by decide) rfl (by decide) ?_
  show A zP (zCs (sv sio)) zK zTy _ _ _ _ _ (cs38 xs) _
  refine A.run cz18 4 (i' := 14) (ls' := [some (.ref 81), some (.int 7)]) (st' := [.ref 81, .int 7]) rfl ?_
  refine A.gf (v := .ref 82) (n := 3) (gI_of cz18 (e := (25, 3, .getfield 11, [2, 0])) rfl) (show 81 < 98 by decide) rfl (by decide) rfl ?_
  refine A.al (c := 111) (n := 8) (gI_of cz18 (e := (28, 1, .arraylength, [])) rfl) (show 82 < 98 by decide) rfl (by decide) ?_
  refine A.run cz18 2 (i' := 18) (ls' := [some (.ref 81), some (.int 7)]) (st' := [.ref 81]) rfl ?_
  refine A.gf (v := .ref 82) (n := 3) (gI_of cz18 (e := (33, 3, .getfield 11, [2, 0])) rfl) (show 81 < 98 by decide) rfl (by decide) rfl ?_
  refine A.run cz18 1 (i' := 20) (ls' := [some (.ref 81), some (.int 7)]) (st' := [.int 7, .ref 82]) rfl ?_
  refine A.nwd (gI_of cz18 (e := (37, 3, .new 9, [1, 2, 0])) rfl) (by decide) rfl ?_
  show A zP (zCs (sv sio)) zK zTy _ _ _ _ _ (cs39 xs) _
  refine A.run cz18 2 (i' := 23) (ls' := [some (.ref 81), some (.int 7)]) (st' := [.int 31, .ref 98, .ref 98, .int 7, .ref 82]) rfl ?_
  refine A.c (gC_sp (x := 98) cz18 (show zM18.2.2.2.2.2[23]? = some (43, 3, .invokespecial 21, [0, 17, 1]) from rfl) cz17 rfl (show aCr 1 98 [.int 31, .ref 98, .ref 98, .int 7, .ref 82] 2 = some ([some (.ref 98), some (.int 31)], [.ref 98, .int 7, .ref 82]) from rfl)) (cq9 xs) ?_
  show A zP (zCs (sv sio)) zK zTy _ _ _ _ _ (cs41 xs) _
  refine A.as (n := 8) (nb := 2) (gI_of cz18 (e := (46, 1, .aastore, [1])) rfl) (show 82 < 100 by decide) (by decide) (by decide) rfl (show 98 < 100 by decide) rfl (by decide) ?_
  show A zP (zCs (sv sio)) zK zTy _ _ _ _ _ (cs42 xs) _
  refine A.run cz18 4 (i' := 14) (ls' := [some (.ref 81), some (.int 8)]) (st' := [.ref 81, .int 8]) rfl ?_
  refine A.gf (v := .ref 82) (n := 3) (gI_of cz18 (e := (25, 3, .getfield 11, [2, 0])) rfl) (show 81 < 100 by decide) rfl (by decide) rfl ?_
  refine A.al (c := 111) (n := 8) (gI_of cz18 (e := (28, 1, .arraylength, [])) rfl) (show 82 < 100 by decide) rfl (by decide) ?_
  refine A.run cz18 1 (i' := 27) (ls' := [some (.ref 81), some (.int 8)]) (st' := []) rfl ?_
  exact A.rv cz18 (show zM18.2.2.2.2.2[27]? = some (53, 1, .return_, []) from rfl) rfl
set_option maxRecDepth 100000 in
theorem cq11 {sio : Bool} {d : Nat} (xs : List Int32) : A zP (zCs (sv sio)) zK zTy (d + 1) 17 0 [some (.ref 104), some (.int 256)] [] (cs59 xs) (.inl none, cs61 xs) := by
  refine A.run cz17 1 (i' := 1) (ls' := [some (.ref 104), some (.int 256)]) (st' := [.ref 104]) rfl ?_
  refine A.oi cz17 (eq_true (show 0 ≤ 8 by decide)) (show zM17.2.2.2.2.2[1]? = some (1, 3, .invokespecial 3, [1]) from rfl) ?_
  refine A.run cz17 4 (i' := 8) (ls' := [some (.ref 104), some (.int 256)]) (st' := [.int 256, .ref 104]) rfl ?_
  refine A.nb (gI_of cz17 (e := (14, 2, .newarray .char, [])) rfl) (by decide) (by decide) (by decide) ?_
  show A zP (zCs (sv sio)) zK zTy _ _ _ _ _ (cs60 xs) _
  refine A.pr (n := 2) (gI_of cz17 (e := (16, 3, .putfield 9, [1, 0, 2])) rfl) (show 104 < 106 by decide) (by decide) rfl (by decide) rfl rfl ?_
  show A zP (zCs (sv sio)) zK zTy _ _ _ _ _ (cs61 xs) _
  exact A.rv cz17 (show zM17.2.2.2.2.2[10]? = some (19, 1, .return_, []) from rfl) rfl
set_option maxRecDepth 100000 in
theorem cq12 {sio : Bool} {d : Nat} (xs : List Int32) : A zP (zCs (sv sio)) zK zTy (d + 2) 19 0 [some (.ref 102)] [] (cs56 xs) (.inl none, cs62 xs) := by
  refine A.run cz19 1 (i' := 1) (ls' := [some (.ref 102)]) (st' := [.ref 102]) rfl ?_
  refine A.oi cz19 (eq_true (show 0 ≤ 8 by decide)) (show zM19.2.2.2.2.2[1]? = some (1, 3, .invokespecial 3, [1]) from rfl) ?_
  refine A.run cz19 2 (i' := 4) (ls' := [some (.ref 102)]) (st' := [.int 1408, .ref 102]) rfl ?_
  refine A.nb (gI_of cz19 (e := (8, 2, .newarray .int, [])) rfl) (by decide) (by decide) (by decide) ?_
  show A zP (zCs (sv sio)) zK zTy _ _ _ _ _ (cs57 xs) _
  refine A.pr (n := 3) (gI_of cz19 (e := (10, 3, .putfield 9, [3, 0, 2])) rfl) (show 102 < 104 by decide) (by decide) rfl (by decide) rfl rfl ?_
  show A zP (zCs (sv sio)) zK zTy _ _ _ _ _ (cs58 xs) _
  refine A.run cz19 1 (i' := 7) (ls' := [some (.ref 102)]) (st' := [.ref 102]) rfl ?_
  refine A.nwd (gI_of cz19 (e := (14, 3, .new 15, [1, 2, 0])) rfl) (by decide) rfl ?_
  show A zP (zCs (sv sio)) zK zTy _ _ _ _ _ (cs59 xs) _
  refine A.run cz19 2 (i' := 10) (ls' := [some (.ref 102)]) (st' := [.int 256, .ref 104, .ref 104, .ref 102]) rfl ?_
  refine A.c (gC_sp (x := 104) cz19 (show zM19.2.2.2.2.2[10]? = some (21, 3, .invokespecial 17, [0, 17, 1]) from rfl) cz17 rfl (show aCr 1 104 [.int 256, .ref 104, .ref 104, .ref 102] 2 = some ([some (.ref 104), some (.int 256)], [.ref 104, .ref 102]) from rfl)) (cq11 xs) ?_
  show A zP (zCs (sv sio)) zK zTy _ _ _ _ _ (cs61 xs) _
  refine A.pr (n := 3) (gI_of cz19 (e := (24, 3, .putfield 20, [3, 1, 2])) rfl) (show 102 < 106 by decide) (by decide) rfl (by decide) rfl rfl ?_
  show A zP (zCs (sv sio)) zK zTy _ _ _ _ _ (cs62 xs) _
  exact A.rv cz19 (show zM19.2.2.2.2.2[12]? = some (27, 1, .return_, []) from rfl) rfl
set_option maxRecDepth 100000 in
theorem cq13 {sio : Bool} {d : Nat} (xs : List Int32) : A zP (zCs (sv sio)) zK zTy (d + 1) 17 0 [some (.ref 107), some (.int 256)] [] (cs65 xs) (.inl none, cs67 xs) := by
  refine A.run cz17 1 (i' := 1) (ls' := [some (.ref 107), some (.int 256)]) (st' := [.ref 107]) rfl ?_
  refine A.oi cz17 (eq_true (show 0 ≤ 8 by decide)) (show zM17.2.2.2.2.2[1]? = some (1, 3, .invokespecial 3, [1]) from rfl) ?_
  refine A.run cz17 4 (i' := 8) (ls' := [some (.ref 107), some (.int 256)]) (st' := [.int 256, .ref 107]) rfl ?_
  refine A.nb (gI_of cz17 (e := (14, 2, .newarray .char, [])) rfl) (by decide) (by decide) (by decide) ?_
  show A zP (zCs (sv sio)) zK zTy _ _ _ _ _ (cs66 xs) _
  refine A.pr (n := 2) (gI_of cz17 (e := (16, 3, .putfield 9, [1, 0, 2])) rfl) (show 107 < 109 by decide) (by decide) rfl (by decide) rfl rfl ?_
  show A zP (zCs (sv sio)) zK zTy _ _ _ _ _ (cs67 xs) _
  exact A.rv cz17 (show zM17.2.2.2.2.2[10]? = some (19, 1, .return_, []) from rfl) rfl
set_option maxRecDepth 100000 in
theorem cq14 {sio : Bool} {d : Nat} (xs : List Int32) : A zP (zCs (sv sio)) zK zTy (d + 1) 21 0 [some (.ref 109)] [] (cs69 xs) (.inl none, cs69 xs) := by
  refine A.run cz21 1 (i' := 1) (ls' := [some (.ref 109)]) (st' := [.ref 109]) rfl ?_
  refine A.oi cz21 (eq_true (show 0 ≤ 8 by decide)) (show zM21.2.2.2.2.2[1]? = some (1, 3, .invokespecial 3, [1]) from rfl) ?_
  exact A.rv cz21 (show zM21.2.2.2.2.2[2]? = some (4, 1, .return_, []) from rfl) rfl
set_option maxRecDepth 100000 in
theorem cq15 {sio : Bool} {d : Nat} (xs : List Int32) : A zP (zCs (sv sio)) zK zTy (d + 1) 22 0 [some (.ref 110)] [] (cs71 xs) (.inl none, cs75 xs) := by
  refine A.run cz22 1 (i' := 1) (ls' := [some (.ref 110)]) (st' := [.ref 110]) rfl ?_
  refine A.oi cz22 (eq_true (show 0 ≤ 8 by decide)) (show zM22.2.2.2.2.2[1]? = some (1, 3, .invokespecial 3, [1]) from rfl) ?_
  refine A.run cz22 2 (i' := 4) (ls' := [some (.ref 110)]) (st' := [.int 128, .ref 110]) rfl ?_
  refine A.nb (gI_of cz22 (e := (8, 2, .newarray .int, [])) rfl) (by decide) (by decide) (by decide) ?_
  show A zP (zCs (sv sio)) zK zTy _ _ _ _ _ (cs72 xs) _
  refine A.pr (n := 3) (gI_of cz22 (e := (10, 3, .putfield 9, [6, 0, 2])) rfl) (show 110 < 112 by decide) (by decide) rfl (by decide) rfl rfl ?_
  show A zP (zCs (sv sio)) zK zTy _ _ _ _ _ (cs73 xs) _
  refine A.run cz22 2 (i' := 8) (ls' := [some (.ref 110)]) (st' := [.int 128, .ref 110]) rfl ?_
  refine A.nb (gI_of cz22 (e := (17, 2, .newarray .int, [])) rfl) (by decide) (by decide) (by decide) ?_
  show A zP (zCs (sv sio)) zK zTy _ _ _ _ _ (cs74 xs) _
  refine A.pr (n := 3) (gI_of cz22 (e := (19, 3, .putfield 15, [6, 1, 2])) rfl) (show 110 < 113 by decide) (by decide) rfl (by decide) rfl rfl ?_
  show A zP (zCs (sv sio)) zK zTy _ _ _ _ _ (cs75 xs) _
  exact A.rv cz22 (show zM22.2.2.2.2.2[10]? = some (22, 1, .return_, []) from rfl) rfl
set_option maxRecDepth 100000 in
theorem cq16 {sio : Bool} {d : Nat} (xs : List Int32) : A zP (zCs (sv sio)) zK zTy (d + 1) 23 0 [some (.ref 113)] [] (cs77 xs) (.inl none, cs83 xs) := by
  refine A.run cz23 1 (i' := 1) (ls' := [some (.ref 113)]) (st' := [.ref 113]) rfl ?_
  refine A.oi cz23 (eq_true (show 0 ≤ 8 by decide)) (show zM23.2.2.2.2.2[1]? = some (1, 3, .invokespecial 3, [1]) from rfl) ?_
  refine A.run cz23 2 (i' := 4) (ls' := [some (.ref 113)]) (st' := [.int 32, .ref 113]) rfl ?_
  refine A.nb (gI_of cz23 (e := (7, 2, .newarray .int, [])) rfl) (by decide) (by decide) (by decide) ?_
  show A zP (zCs (sv sio)) zK zTy _ _ _ _ _ (cs78 xs) _
  refine A.pr (n := 4) (gI_of cz23 (e := (9, 3, .putfield 9, [7, 0, 2])) rfl) (show 113 < 115 by decide) (by decide) rfl (by decide) rfl rfl ?_
  show A zP (zCs (sv sio)) zK zTy _ _ _ _ _ (cs79 xs) _
  refine A.run cz23 2 (i' := 8) (ls' := [some (.ref 113)]) (st' := [.int 32, .ref 113]) rfl ?_
  refine A.nb (gI_of cz23 (e := (15, 2, .newarray .int, [])) rfl) (by decide) (by decide) (by decide) ?_
  show A zP (zCs (sv sio)) zK zTy _ _ _ _ _ (cs80 xs) _
  refine A.pr (n := 4) (gI_of cz23 (e := (17, 3, .putfield 15, [7, 1, 2])) rfl) (show 113 < 116 by decide) (by decide) rfl (by decide) rfl rfl ?_
  show A zP (zCs (sv sio)) zK zTy _ _ _ _ _ (cs81 xs) _
  refine A.run cz23 2 (i' := 12) (ls' := [some (.ref 113)]) (st' := [.int 32, .ref 113]) rfl ?_
  refine A.nb (gI_of cz23 (e := (23, 2, .newarray .int, [])) rfl) (by decide) (by decide) (by decide) ?_
  show A zP (zCs (sv sio)) zK zTy _ _ _ _ _ (cs82 xs) _
  refine A.pr (n := 4) (gI_of cz23 (e := (25, 3, .putfield 18, [7, 2, 2])) rfl) (show 113 < 117 by decide) (by decide) rfl (by decide) rfl rfl ?_
  show A zP (zCs (sv sio)) zK zTy _ _ _ _ _ (cs83 xs) _
  exact A.rv cz23 (show zM23.2.2.2.2.2[14]? = some (28, 1, .return_, []) from rfl) rfl
set_option maxRecDepth 100000 in
theorem cq17 {sio : Bool} {d : Nat} (xs : List Int32) : A zP (zCs (sv sio)) zK zTy (d + 2) 20 0 [some (.ref 106), some (.ref 79), some (.ref 81), some (.ref 102)] [] (cs64 xs) (.inl none, cs87 xs) := by
  refine A.run cz20 1 (i' := 1) (ls' := [some (.ref 106), some (.ref 79), some (.ref 81), some (.ref 102)]) (st' := [.ref 106]) rfl ?_
  refine A.oi cz20 (eq_true (show 0 ≤ 8 by decide)) (show zM20.2.2.2.2.2[1]? = some (1, 3, .invokespecial 3, [1]) from rfl) ?_
  refine A.run cz20 1 (i' := 3) (ls' := [some (.ref 106), some (.ref 79), some (.ref 81), some (.ref 102)]) (st' := [.ref 106]) rfl ?_
  refine A.nwd (gI_of cz20 (e := (5, 3, .new 9, [1, 2, 0])) rfl) (by decide) rfl ?_
  show A zP (zCs (sv sio)) zK zTy _ _ _ _ _ (cs65 xs) _
  refine A.run cz20 2 (i' := 6) (ls' := [some (.ref 106), some (.ref 79), some (.ref 81), some (.ref 102)]) (st' := [.int 256, .ref 107, .ref 107, .ref 106]) rfl ?_
  refine A.c (gC_sp (x := 107) cz20 (show zM20.2.2.2.2.2[6]? = some (12, 3, .invokespecial 11, [0, 17, 1]) from rfl) cz17 rfl (show aCr 1 107 [.int 256, .ref 107, .ref 107, .ref 106] 2 = some ([some (.ref 107), some (.int 256)], [.ref 107, .ref 106]) from rfl)) (cq13 xs) ?_
  show A zP (zCs (sv sio)) zK zTy _ _ _ _ _ (cs67 xs) _
  refine A.pr (n := 13) (gI_of cz20 (e := (15, 3, .putfield 14, [4, 2, 2])) rfl) (show 106 < 109 by decide) (by decide) rfl (by decide) rfl rfl ?_
  show A zP (zCs (sv sio)) zK zTy _ _ _ _ _ (cs68 xs) _
  refine A.run cz20 1 (i' := 9) (ls' := [some (.ref 106), some (.ref 79), some (.ref 81), some (.ref 102)]) (st' := [.ref 106]) rfl ?_
  refine A.nwd (gI_of cz20 (e := (19, 3, .new 20, [5, 0, 0, 0, 0])) rfl) (by decide) rfl ?_
  show A zP (zCs (sv sio)) zK zTy _ _ _ _ _ (cs69 xs) _
  refine A.run cz20 1 (i' := 11) (ls' := [some (.ref 106), some (.ref 79), some (.ref 81), some (.ref 102)]) (st' := [.ref 109, .ref 109, .ref 106]) rfl ?_
  refine A.c (gC_sp (x := 109) cz20 (show zM20.2.2.2.2.2[11]? = some (23, 3, .invokespecial 22, [0, 21, 0]) from rfl) cz21 rfl (show aCr 0 109 [.ref 109, .ref 109, .ref 106] 1 = some ([some (.ref 109)], [.ref 109, .ref 106]) from rfl)) (cq14 xs) ?_
  show A zP (zCs (sv sio)) zK zTy _ _ _ _ _ (cs69 xs) _
  refine A.pr (n := 13) (gI_of cz20 (e := (26, 3, .putfield 23, [4, 3, 2])) rfl) (show 106 < 110 by decide) (by decide) rfl (by decide) rfl rfl ?_
  show A zP (zCs (sv sio)) zK zTy _ _ _ _ _ (cs70 xs) _
  refine A.run cz20 1 (i' := 14) (ls' := [some (.ref 106), some (.ref 79), some (.ref 81), some (.ref 102)]) (st' := [.ref 106]) rfl ?_
  refine A.nwd (gI_of cz20 (e := (30, 3, .new 27, [6, 2, 2, 0])) rfl) (by decide) rfl ?_
  show A zP (zCs (sv sio)) zK zTy _ _ _ _ _ (cs71 xs) _
  refine A.run cz20 1 (i' := 16) (ls' := [some (.ref 106), some (.ref 79), some (.ref 81), some (.ref 102)]) (st' := [.ref 110, .ref 110, .ref 106]) rfl ?_
  refine A.c (gC_sp (x := 110) cz20 (show zM20.2.2.2.2.2[16]? = some (34, 3, .invokespecial 29, [0, 22, 0]) from rfl) cz22 rfl (show aCr 0 110 [.ref 110, .ref 110, .ref 106] 1 = some ([some (.ref 110)], [.ref 110, .ref 106]) from rfl)) (cq15 xs) ?_
  show A zP (zCs (sv sio)) zK zTy _ _ _ _ _ (cs75 xs) _
  refine A.pr (n := 13) (gI_of cz20 (e := (37, 3, .putfield 30, [4, 4, 2])) rfl) (show 106 < 113 by decide) (by decide) rfl (by decide) rfl rfl ?_
  show A zP (zCs (sv sio)) zK zTy _ _ _ _ _ (cs76 xs) _
  refine A.run cz20 1 (i' := 19) (ls' := [some (.ref 106), some (.ref 79), some (.ref 81), some (.ref 102)]) (st' := [.ref 106]) rfl ?_
  refine A.nwd (gI_of cz20 (e := (41, 3, .new 34, [7, 2, 2, 2, 0])) rfl) (by decide) rfl ?_
  show A zP (zCs (sv sio)) zK zTy _ _ _ _ _ (cs77 xs) _
  refine A.run cz20 1 (i' := 21) (ls' := [some (.ref 106), some (.ref 79), some (.ref 81), some (.ref 102)]) (st' := [.ref 113, .ref 113, .ref 106]) rfl ?_
  refine A.c (gC_sp (x := 113) cz20 (show zM20.2.2.2.2.2[21]? = some (45, 3, .invokespecial 36, [0, 23, 0]) from rfl) cz23 rfl (show aCr 0 113 [.ref 113, .ref 113, .ref 106] 1 = some ([some (.ref 113)], [.ref 113, .ref 106]) from rfl)) (cq16 xs) ?_
  show A zP (zCs (sv sio)) zK zTy _ _ _ _ _ (cs83 xs) _
  refine A.pr (n := 13) (gI_of cz20 (e := (48, 3, .putfield 37, [4, 5, 2])) rfl) (show 106 < 117 by decide) (by decide) rfl (by decide) rfl rfl ?_
  show A zP (zCs (sv sio)) zK zTy _ _ _ _ _ (cs84 xs) _
  refine A.run cz20 2 (i' := 25) (ls' := [some (.ref 106), some (.ref 79), some (.ref 81), some (.ref 102)]) (st' := [.ref 79, .ref 106]) rfl ?_
  refine A.pr (n := 13) (gI_of cz20 (e := (53, 3, .putfield 41, [4, 0, 2])) rfl) (show 106 < 117 by decide) (by decide) rfl (by decide) rfl rfl ?_
  show A zP (zCs (sv sio)) zK zTy _ _ _ _ _ (cs85 xs) _
  refine A.run cz20 2 (i' := 28) (ls' := [some (.ref 106), some (.ref 79), some (.ref 81), some (.ref 102)]) (st' := [.ref 81, .ref 106]) rfl ?_
  refine A.pr (n := 13) (gI_of cz20 (e := (58, 3, .putfield 44, [4, 1, 2])) rfl) (show 106 < 117 by decide) (by decide) rfl (by decide) rfl rfl ?_
  show A zP (zCs (sv sio)) zK zTy _ _ _ _ _ (cs86 xs) _
  refine A.run cz20 2 (i' := 31) (ls' := [some (.ref 106), some (.ref 79), some (.ref 81), some (.ref 102)]) (st' := [.ref 102, .ref 106]) rfl ?_
  refine A.pr (n := 13) (gI_of cz20 (e := (63, 3, .putfield 48, [4, 6, 2])) rfl) (show 106 < 117 by decide) (by decide) rfl (by decide) rfl rfl ?_
  show A zP (zCs (sv sio)) zK zTy _ _ _ _ _ (cs87 xs) _
  exact A.rv cz20 (show zM20.2.2.2.2.2[32]? = some (66, 1, .return_, []) from rfl) rfl
set_option maxRecDepth 100000 in
theorem cq18 {sio : Bool} {d : Nat} (xs : List Int32) : A zP (zCs (sv sio)) zK zTy (d + 1) 24 0 [some (.ref 117), some (.ref 81), some (.ref 102)] [] (cs89 xs) (.inl none, cs97 xs) := by
  refine A.run cz24 1 (i' := 1) (ls' := [some (.ref 117), some (.ref 81), some (.ref 102)]) (st' := [.ref 117]) rfl ?_
  refine A.oi cz24 (eq_true (show 0 ≤ 8 by decide)) (show zM24.2.2.2.2.2[1]? = some (1, 3, .invokespecial 3, [1]) from rfl) ?_
  refine A.run cz24 2 (i' := 4) (ls' := [some (.ref 117), some (.ref 81), some (.ref 102)]) (st' := [.int 128, .ref 117]) rfl ?_
  refine A.nb (gI_of cz24 (e := (8, 2, .newarray .int, [])) rfl) (by decide) (by decide) (by decide) ?_
  show A zP (zCs (sv sio)) zK zTy _ _ _ _ _ (cs90 xs) _
  refine A.pr (n := 11) (gI_of cz24 (e := (10, 3, .putfield 9, [8, 1, 2])) rfl) (show 117 < 119 by decide) (by decide) rfl (by decide) rfl rfl ?_
  show A zP (zCs (sv sio)) zK zTy _ _ _ _ _ (cs91 xs) _
  refine A.run cz24 2 (i' := 8) (ls' := [some (.ref 117), some (.ref 81), some (.ref 102)]) (st' := [.int 128, .ref 117]) rfl ?_
  refine A.nb (gI_of cz24 (e := (17, 2, .newarray .int, [])) rfl) (by decide) (by decide) (by decide) ?_
  show A zP (zCs (sv sio)) zK zTy _ _ _ _ _ (cs92 xs) _
  refine A.pr (n := 11) (gI_of cz24 (e := (19, 3, .putfield 15, [8, 2, 2])) rfl) (show 117 < 120 by decide) (by decide) rfl (by decide) rfl rfl ?_
  show A zP (zCs (sv sio)) zK zTy _ _ _ _ _ (cs93 xs) _
  refine A.run cz24 2 (i' := 12) (ls' := [some (.ref 117), some (.ref 81), some (.ref 102)]) (st' := [.int 128, .ref 117]) rfl ?_
  refine A.nb (gI_of cz24 (e := (26, 2, .newarray .boolean, [])) rfl) (by decide) (by decide) (by decide) ?_
  show A zP (zCs (sv sio)) zK zTy _ _ _ _ _ (cs94 xs) _
  refine A.pr (n := 11) (gI_of cz24 (e := (28, 3, .putfield 18, [8, 3, 2])) rfl) (show 117 < 121 by decide) (by decide) rfl (by decide) rfl rfl ?_
  show A zP (zCs (sv sio)) zK zTy _ _ _ _ _ (cs95 xs) _
  refine A.run cz24 2 (i' := 16) (ls' := [some (.ref 117), some (.ref 81), some (.ref 102)]) (st' := [.ref 81, .ref 117]) rfl ?_
  refine A.pr (n := 11) (gI_of cz24 (e := (33, 3, .putfield 22, [8, 0, 2])) rfl) (show 117 < 121 by decide) (by decide) rfl (by decide) rfl rfl ?_
  show A zP (zCs (sv sio)) zK zTy _ _ _ _ _ (cs96 xs) _
  refine A.run cz24 2 (i' := 19) (ls' := [some (.ref 117), some (.ref 81), some (.ref 102)]) (st' := [.ref 102, .ref 117]) rfl ?_
  refine A.pr (n := 11) (gI_of cz24 (e := (38, 3, .putfield 26, [8, 5, 2])) rfl) (show 117 < 121 by decide) (by decide) rfl (by decide) rfl rfl ?_
  show A zP (zCs (sv sio)) zK zTy _ _ _ _ _ (cs97 xs) _
  exact A.rv cz24 (show zM24.2.2.2.2.2[20]? = some (41, 1, .return_, []) from rfl) rfl
set_option maxRecDepth 100000 in
theorem cq19 {sio : Bool} {d : Nat} (xs : List Int32) : A zP (zCs (sv sio)) zK zTy (d + 3) 16 0 [some (.ref 78), none] [] (cs1 xs) (.inl none, cs98 xs) := by
  refine A.run cz16 1 (i' := 1) (ls' := [some (.ref 78), none]) (st' := [.ref 78]) rfl ?_
  refine A.oi cz16 (eq_true (show 0 ≤ 8 by decide)) (show zM16.2.2.2.2.2[1]? = some (1, 3, .invokespecial 1, [1]) from rfl) ?_
  refine A.run cz16 1 (i' := 3) (ls' := [some (.ref 78), none]) (st' := [.ref 78]) rfl ?_
  refine A.nwd (gI_of cz16 (e := (5, 3, .new 7, [1, 2, 0])) rfl) (by decide) rfl ?_
  show A zP (zCs (sv sio)) zK zTy _ _ _ _ _ (cs2 xs) _
  refine A.run cz16 2 (i' := 6) (ls' := [some (.ref 78), none]) (st' := [.int 256, .ref 79, .ref 79, .ref 78]) rfl ?_
  refine A.c (gC_sp (x := 79) cz16 (show zM16.2.2.2.2.2[6]? = some (12, 3, .invokespecial 11, [0, 17, 1]) from rfl) cz17 rfl (show aCr 1 79 [.int 256, .ref 79, .ref 79, .ref 78] 2 = some ([some (.ref 79), some (.int 256)], [.ref 79, .ref 78]) from rfl)) (cq1 xs) ?_
  show A zP (zCs (sv sio)) zK zTy _ _ _ _ _ (cs4 xs) _
  refine A.pr (n := 7) (gI_of cz16 (e := (15, 3, .putfield 14, [0, 0, 2])) rfl) (show 78 < 81 by decide) (by decide) rfl (by decide) rfl rfl ?_
  show A zP (zCs (sv sio)) zK zTy _ _ _ _ _ (cs5 xs) _
  refine A.run cz16 1 (i' := 9) (ls' := [some (.ref 78), none]) (st' := [.ref 78]) rfl ?_
  refine A.nwd (gI_of cz16 (e := (19, 3, .new 18, [2, 2, 2, 0])) rfl) (by decide) rfl ?_
  show A zP (zCs (sv sio)) zK zTy _ _ _ _ _ (cs6 xs) _
  refine A.run cz16 1 (i' := 11) (ls' := [some (.ref 78), none]) (st' := [.ref 81, .ref 81, .ref 78]) rfl ?_
  refine A.c (gC_sp (x := 81) cz16 (show zM16.2.2.2.2.2[11]? = some (23, 3, .invokespecial 20, [0, 18, 0]) from rfl) cz18 rfl (show aCr 0 81 [.ref 81, .ref 81, .ref 78] 2 = some ([some (.ref 81), none], [.ref 81, .ref 78]) from rfl)) (cq10 xs) ?_
  show A zP (zCs (sv sio)) zK zTy _ _ _ _ _ (cs42 xs) _
  refine A.pr (n := 7) (gI_of cz16 (e := (26, 3, .putfield 21, [0, 1, 2])) rfl) (show 78 < 100 by decide) (by decide) rfl (by decide) rfl rfl ?_
  show A zP (zCs (sv sio)) zK zTy _ _ _ _ _ (cs43 xs) _
  refine A.run cz16 2 (i' := 15) (ls' := [some (.ref 78), none]) (st' := [.int 8, .ref 78]) rfl ?_
  refine A.nr (gI_of cz16 (e := (32, 3, .anewarray 25, [3])) rfl) (by decide) (by decide) (by decide) ?_
  show A zP (zCs (sv sio)) zK zTy _ _ _ _ _ (cs44 xs) _
  refine A.pr (n := 7) (gI_of cz16 (e := (35, 3, .putfield 27, [0, 2, 2])) rfl) (show 78 < 101 by decide) (by decide) rfl (by decide) rfl rfl ?_
  show A zP (zCs (sv sio)) zK zTy _ _ _ _ _ (cs45 xs) _
  refine A.run cz16 2 (i' := 19) (ls' := [some (.ref 78), none]) (st' := [.int 8, .ref 78]) rfl ?_
  refine A.nb (gI_of cz16 (e := (41, 2, .newarray .int, [])) rfl) (by decide) (by decide) (by decide) ?_
  show A zP (zCs (sv sio)) zK zTy _ _ _ _ _ (cs46 xs) _
  refine A.pr (n := 7) (gI_of cz16 (e := (43, 3, .putfield 31, [0, 3, 2])) rfl) (show 78 < 102 by decide) (by decide) rfl (by decide) rfl rfl ?_
  show A zP (zCs (sv sio)) zK zTy _ _ _ _ _ (cs47 xs) _
  refine A.run cz16 4 (i' := 25) (ls' := [some (.ref 78), some (.int 0)]) (st' := [.ref 78, .int 0]) rfl ?_
  refine A.gf (v := .ref 101) (n := 7) (gI_of cz16 (e := (50, 3, .getfield 31, [0, 3])) rfl) (show 78 < 102 by decide) rfl (by decide) rfl ?_
  refine A.al (c := 100) (n := 8) (gI_of cz16 (e := (53, 1, .arraylength, [])) rfl) (show 101 < 102 by decide) rfl (by decide) ?_
  refine A.run cz16 2 (i' := 29) (ls' := [some (.ref 78), some (.int 0)]) (st' := [.ref 78]) rfl ?_
  refine A.gf (v := .ref 101) (n := 7) (gI_of cz16 (e := (58, 3, .getfield 31, [0, 3])) rfl) (show 78 < 102 by decide) rfl (by decide) rfl ?_
  refine A.run cz16 2 (i' := 32) (ls' := [some (.ref 78), some (.int 0)]) (st' := [.int (-1), .int 0, .ref 101]) rfl ?_
  refine A.is (n := 8) (gI_of cz16 (e := (63, 1, .iastore, [])) rfl) (show 101 < 102 by decide) (by decide) rfl (by decide) ?_
  show A zP (zCs (sv sio)) zK zTy _ _ _ _ _ (cs48 xs) _
  refine A.run cz16 4 (i' := 25) (ls' := [some (.ref 78), some (.int 1)]) (st' := [.ref 78, .int 1]) rfl ?_
  refine A.gf (v := .ref 101) (n := 7) (gI_of cz16 (e := (50, 3, .getfield 31, [0, 3])) rfl) (show 78 < 102 by decide) rfl (by decide) rfl ?_
  refine A.al (c := 100) (n := 8) (gI_of cz16 (e := (53, 1, .arraylength, [])) rfl) (show 101 < 102 by decide) rfl (by decide) ?_
  refine A.run cz16 2 (i' := 29) (ls' := [some (.ref 78), some (.int 1)]) (st' := [.ref 78]) rfl ?_
  refine A.gf (v := .ref 101) (n := 7) (gI_of cz16 (e := (58, 3, .getfield 31, [0, 3])) rfl) (show 78 < 102 by decide) rfl (by decide) rfl ?_
  refine A.run cz16 2 (i' := 32) (ls' := [some (.ref 78), some (.int 1)]) (st' := [.int (-1), .int 1, .ref 101]) rfl ?_
  refine A.is (n := 8) (gI_of cz16 (e := (63, 1, .iastore, [])) rfl) (show 101 < 102 by decide) (by decide) rfl (by decide) ?_
  show A zP (zCs (sv sio)) zK zTy _ _ _ _ _ (cs49 xs) _
  refine A.run cz16 4 (i' := 25) (ls' := [some (.ref 78), some (.int 2)]) (st' := [.ref 78, .int 2]) rfl ?_
  refine A.gf (v := .ref 101) (n := 7) (gI_of cz16 (e := (50, 3, .getfield 31, [0, 3])) rfl) (show 78 < 102 by decide) rfl (by decide) rfl ?_
  refine A.al (c := 100) (n := 8) (gI_of cz16 (e := (53, 1, .arraylength, [])) rfl) (show 101 < 102 by decide) rfl (by decide) ?_
  refine A.run cz16 2 (i' := 29) (ls' := [some (.ref 78), some (.int 2)]) (st' := [.ref 78]) rfl ?_
  refine A.gf (v := .ref 101) (n := 7) (gI_of cz16 (e := (58, 3, .getfield 31, [0, 3])) rfl) (show 78 < 102 by decide) rfl (by decide) rfl ?_
  refine A.run cz16 2 (i' := 32) (ls' := [some (.ref 78), some (.int 2)]) (st' := [.int (-1), .int 2, .ref 101]) rfl ?_
  refine A.is (n := 8) (gI_of cz16 (e := (63, 1, .iastore, [])) rfl) (show 101 < 102 by decide) (by decide) rfl (by decide) ?_
  show A zP (zCs (sv sio)) zK zTy _ _ _ _ _ (cs50 xs) _
  refine A.run cz16 4 (i' := 25) (ls' := [some (.ref 78), some (.int 3)]) (st' := [.ref 78, .int 3]) rfl ?_
  refine A.gf (v := .ref 101) (n := 7) (gI_of cz16 (e := (50, 3, .getfield 31, [0, 3])) rfl) (show 78 < 102 by decide) rfl (by decide) rfl ?_
  refine A.al (c := 100) (n := 8) (gI_of cz16 (e := (53, 1, .arraylength, [])) rfl) (show 101 < 102 by decide) rfl (by decide) ?_
  refine A.run cz16 2 (i' := 29) (ls' := [some (.ref 78), some (.int 3)]) (st' := [.ref 78]) rfl ?_
  refine A.gf (v := .ref 101) (n := 7) (gI_of cz16 (e := (58, 3, .getfield 31, [0, 3])) rfl) (show 78 < 102 by decide) rfl (by decide) rfl ?_
  refine A.run cz16 2 (i' := 32) (ls' := [some (.ref 78), some (.int 3)]) (st' := [.int (-1), .int 3, .ref 101]) rfl ?_
  refine A.is (n := 8) (gI_of cz16 (e := (63, 1, .iastore, [])) rfl) (show 101 < 102 by decide) (by decide) rfl (by decide) ?_
  show A zP (zCs (sv sio)) zK zTy _ _ _ _ _ (cs51 xs) _
  refine A.run cz16 4 (i' := 25) (ls' := [some (.ref 78), some (.int 4)]) (st' := [.ref 78, .int 4]) rfl ?_
  refine A.gf (v := .ref 101) (n := 7) (gI_of cz16 (e := (50, 3, .getfield 31, [0, 3])) rfl) (show 78 < 102 by decide) rfl (by decide) rfl ?_
  refine A.al (c := 100) (n := 8) (gI_of cz16 (e := (53, 1, .arraylength, [])) rfl) (show 101 < 102 by decide) rfl (by decide) ?_
  refine A.run cz16 2 (i' := 29) (ls' := [some (.ref 78), some (.int 4)]) (st' := [.ref 78]) rfl ?_
  refine A.gf (v := .ref 101) (n := 7) (gI_of cz16 (e := (58, 3, .getfield 31, [0, 3])) rfl) (show 78 < 102 by decide) rfl (by decide) rfl ?_
  refine A.run cz16 2 (i' := 32) (ls' := [some (.ref 78), some (.int 4)]) (st' := [.int (-1), .int 4, .ref 101]) rfl ?_
  refine A.is (n := 8) (gI_of cz16 (e := (63, 1, .iastore, [])) rfl) (show 101 < 102 by decide) (by decide) rfl (by decide) ?_
  show A zP (zCs (sv sio)) zK zTy _ _ _ _ _ (cs52 xs) _
  refine A.run cz16 4 (i' := 25) (ls' := [some (.ref 78), some (.int 5)]) (st' := [.ref 78, .int 5]) rfl ?_
  refine A.gf (v := .ref 101) (n := 7) (gI_of cz16 (e := (50, 3, .getfield 31, [0, 3])) rfl) (show 78 < 102 by decide) rfl (by decide) rfl ?_
  refine A.al (c := 100) (n := 8) (gI_of cz16 (e := (53, 1, .arraylength, [])) rfl) (show 101 < 102 by decide) rfl (by decide) ?_
  refine A.run cz16 2 (i' := 29) (ls' := [some (.ref 78), some (.int 5)]) (st' := [.ref 78]) rfl ?_
  refine A.gf (v := .ref 101) (n := 7) (gI_of cz16 (e := (58, 3, .getfield 31, [0, 3])) rfl) (show 78 < 102 by decide) rfl (by decide) rfl ?_
  refine A.run cz16 2 (i' := 32) (ls' := [some (.ref 78), some (.int 5)]) (st' := [.int (-1), .int 5, .ref 101]) rfl ?_
  refine A.is (n := 8) (gI_of cz16 (e := (63, 1, .iastore, [])) rfl) (show 101 < 102 by decide) (by decide) rfl (by decide) ?_
  show A zP (zCs (sv sio)) zK zTy _ _ _ _ _ (cs53 xs) _
  refine A.run cz16 4 (i' := 25) (ls' := [some (.ref 78), some (.int 6)]) (st' := [.ref 78, .int 6]) rfl ?_
  refine A.gf (v := .ref 101) (n := 7) (gI_of cz16 (e := (50, 3, .getfield 31, [0, 3])) rfl) (show 78 < 102 by decide) rfl (by decide) rfl ?_
  refine A.al (c := 100) (n := 8) (gI_of cz16 (e := (53, 1, .arraylength, [])) rfl) (show 101 < 102 by decide) rfl (by decide) ?_
  refine A.run cz16 2 (i' := 29) (ls' := [some (.ref 78), some (.int 6)]) (st' := [.ref 78]) rfl ?_
  refine A.gf (v := .ref 101) (n := 7) (gI_of cz16 (e := (58, 3, .getfield 31, [0, 3])) rfl) (show 78 < 102 by decide) rfl (by decide) rfl ?_
  refine A.run cz16 2 (i' := 32) (ls' := [some (.ref 78), some (.int 6)]) (st' := [.int (-1), .int 6, .ref 101]) rfl ?_
  refine A.is (n := 8) (gI_of cz16 (e := (63, 1, .iastore, [])) rfl) (show 101 < 102 by decide) (by decide) rfl (by decide) ?_
  show A zP (zCs (sv sio)) zK zTy _ _ _ _ _ (cs54 xs) _
  refine A.run cz16 4 (i' := 25) (ls' := [some (.ref 78), some (.int 7)]) (st' := [.ref 78, .int 7]) rfl ?_
  refine A.gf (v := .ref 101) (n := 7) (gI_of cz16 (e := (50, 3, .getfield 31, [0, 3])) rfl) (show 78 < 102 by decide) rfl (by decide) rfl ?_
  refine A.al (c := 100) (n := 8) (gI_of cz16 (e := (53, 1, .arraylength, [])) rfl) (show 101 < 102 by decide) rfl (by decide) ?_
  refine A.run cz16 2 (i' := 29) (ls' := [some (.ref 78), some (.int 7)]) (st' := [.ref 78]) rfl ?_
  refine A.gf (v := .ref 101) (n := 7) (gI_of cz16 (e := (58, 3, .getfield 31, [0, 3])) rfl) (show 78 < 102 by decide) rfl (by decide) rfl ?_
  refine A.run cz16 2 (i' := 32) (ls' := [some (.ref 78), some (.int 7)]) (st' := [.int (-1), .int 7, .ref 101]) rfl ?_
  refine A.is (n := 8) (gI_of cz16 (e := (63, 1, .iastore, [])) rfl) (show 101 < 102 by decide) (by decide) rfl (by decide) ?_
  show A zP (zCs (sv sio)) zK zTy _ _ _ _ _ (cs55 xs) _
  refine A.run cz16 4 (i' := 25) (ls' := [some (.ref 78), some (.int 8)]) (st' := [.ref 78, .int 8]) rfl ?_
  refine A.gf (v := .ref 101) (n := 7) (gI_of cz16 (e := (50, 3, .getfield 31, [0, 3])) rfl) (show 78 < 102 by decide) rfl (by decide) rfl ?_
  refine A.al (c := 100) (n := 8) (gI_of cz16 (e := (53, 1, .arraylength, [])) rfl) (show 101 < 102 by decide) rfl (by decide) ?_
  refine A.run cz16 2 (i' := 36) (ls' := [some (.ref 78), some (.int 8)]) (st' := [.ref 78]) rfl ?_
  refine A.nwd (gI_of cz16 (e := (71, 3, .new 25, [3, 2, 2, 0])) rfl) (by decide) rfl ?_
  show A zP (zCs (sv sio)) zK zTy _ _ _ _ _ (cs56 xs) _
  refine A.run cz16 1 (i' := 38) (ls' := [some (.ref 78), some (.int 8)]) (st' := [.ref 102, .ref 102, .ref 78]) rfl ?_
  refine A.c (gC_sp (x := 102) cz16 (show zM16.2.2.2.2.2[38]? = some (75, 3, .invokespecial 35, [0, 19, 0]) from rfl) cz19 rfl (show aCr 0 102 [.ref 102, .ref 102, .ref 78] 1 = some ([some (.ref 102)], [.ref 102, .ref 78]) from rfl)) (cq12 xs) ?_
  show A zP (zCs (sv sio)) zK zTy _ _ _ _ _ (cs62 xs) _
  refine A.pr (n := 7) (gI_of cz16 (e := (78, 3, .putfield 36, [0, 6, 2])) rfl) (show 78 < 106 by decide) (by decide) rfl (by decide) rfl rfl ?_
  show A zP (zCs (sv sio)) zK zTy _ _ _ _ _ (cs63 xs) _
  refine A.run cz16 1 (i' := 41) (ls' := [some (.ref 78), some (.int 8)]) (st' := [.ref 78]) rfl ?_
  refine A.nwd (gI_of cz16 (e := (82, 3, .new 40, [4, 2, 2, 2, 2, 2, 2, 2, 0, 0, 0, 0, 0, 0])) rfl) (by decide) rfl ?_
  show A zP (zCs (sv sio)) zK zTy _ _ _ _ _ (cs64 xs) _
  refine A.run cz16 2 (i' := 44) (ls' := [some (.ref 78), some (.int 8)]) (st' := [.ref 78, .ref 106, .ref 106, .ref 78]) rfl ?_
  refine A.gf (v := .ref 79) (n := 7) (gI_of cz16 (e := (87, 3, .getfield 14, [0, 0])) rfl) (show 78 < 107 by decide) rfl (by decide) rfl ?_
  refine A.run cz16 1 (i' := 46) (ls' := [some (.ref 78), some (.int 8)]) (st' := [.ref 78, .ref 79, .ref 106, .ref 106, .ref 78]) rfl ?_
  refine A.gf (v := .ref 81) (n := 7) (gI_of cz16 (e := (91, 3, .getfield 21, [0, 1])) rfl) (show 78 < 107 by decide) rfl (by decide) rfl ?_
  refine A.run cz16 1 (i' := 48) (ls' := [some (.ref 78), some (.int 8)]) (st' := [.ref 78, .ref 81, .ref 79, .ref 106, .ref 106, .ref 78]) rfl ?_
  refine A.gf (v := .ref 102) (n := 7) (gI_of cz16 (e := (95, 3, .getfield 36, [0, 6])) rfl) (show 78 < 107 by decide) rfl (by decide) rfl ?_
  refine A.c (gC_sp (x := 106) cz16 (show zM16.2.2.2.2.2[49]? = some (98, 3, .invokespecial 42, [0, 20, 3]) from rfl) cz20 rfl (show aCr 3 106 [.ref 102, .ref 81, .ref 79, .ref 106, .ref 106, .ref 78] 4 = some ([some (.ref 106), some (.ref 79), some (.ref 81), some (.ref 102)], [.ref 106, .ref 78]) from rfl)) (cq17 xs) ?_
  show A zP (zCs (sv sio)) zK zTy _ _ _ _ _ (cs87 xs) _
  refine A.pr (n := 7) (gI_of cz16 (e := (101, 3, .putfield 45, [0, 4, 2])) rfl) (show 78 < 117 by decide) (by decide) rfl (by decide) rfl rfl ?_
  show A zP (zCs (sv sio)) zK zTy _ _ _ _ _ (cs88 xs) _
  refine A.run cz16 1 (i' := 52) (ls' := [some (.ref 78), some (.int 8)]) (st' := [.ref 78]) rfl ?_
  refine A.nwd (gI_of cz16 (e := (105, 3, .new 49, [8, 2, 2, 2, 2, 0, 2, 0, 1, 0, 0, 0])) rfl) (by decide) rfl ?_
  show A zP (zCs (sv sio)) zK zTy _ _ _ _ _ (cs89 xs) _
  refine A.run cz16 2 (i' := 55) (ls' := [some (.ref 78), some (.int 8)]) (st' := [.ref 78, .ref 117, .ref 117, .ref 78]) rfl ?_
  refine A.gf (v := .ref 81) (n := 7) (gI_of cz16 (e := (110, 3, .getfield 21, [0, 1])) rfl) (show 78 < 118 by decide) rfl (by decide) rfl ?_
  refine A.run cz16 1 (i' := 57) (ls' := [some (.ref 78), some (.int 8)]) (st' := [.ref 78, .ref 81, .ref 117, .ref 117, .ref 78]) rfl ?_
  refine A.gf (v := .ref 102) (n := 7) (gI_of cz16 (e := (114, 3, .getfield 36, [0, 6])) rfl) (show 78 < 118 by decide) rfl (by decide) rfl ?_
  refine A.c (gC_sp (x := 117) cz16 (show zM16.2.2.2.2.2[58]? = some (117, 3, .invokespecial 51, [0, 24, 2]) from rfl) cz24 rfl (show aCr 2 117 [.ref 102, .ref 81, .ref 117, .ref 117, .ref 78] 3 = some ([some (.ref 117), some (.ref 81), some (.ref 102)], [.ref 117, .ref 78]) from rfl)) (cq18 xs) ?_
  show A zP (zCs (sv sio)) zK zTy _ _ _ _ _ (cs97 xs) _
  refine A.pr (n := 7) (gI_of cz16 (e := (120, 3, .putfield 54, [0, 5, 2])) rfl) (show 78 < 121 by decide) (by decide) rfl (by decide) rfl rfl ?_
  show A zP (zCs (sv sio)) zK zTy _ _ _ _ _ (cs98 xs) _
  exact A.rv cz16 (show zM16.2.2.2.2.2[60]? = some (123, 1, .return_, []) from rfl) rfl
set_option maxRecDepth 100000 in
theorem cq20 {sio : Bool} {d : Nat} (xs : List Int32) : A zP (zCs (sv sio)) zK zTy (d + 1) 170 0 [some (.ref 121)] [] (cs99 xs) (.inl none, cs151 xs) := by
  refine A.run cz170 1 (i' := 1) (ls' := [some (.ref 121)]) (st' := [.ref 121]) rfl ?_
  refine A.oi cz170 (eq_true (show 0 ≤ 8 by decide)) (show zM170.2.2.2.2.2[1]? = some (1, 3, .invokespecial 1, [1]) from rfl) ?_
  refine A.run cz170 2 (i' := 4) (ls' := [some (.ref 121)]) (st' := [.int 256, .ref 121]) rfl ?_
  refine A.nb (gI_of cz170 (e := (8, 2, .newarray .int, [])) rfl) (by decide) (by decide) (by decide) ?_
  show A zP (zCs (sv sio)) zK zTy _ _ _ _ _ (cs100 xs) _
  refine A.pr (n := 45) (gI_of cz170 (e := (10, 3, .putfield 7, [9, 2, 2])) rfl) (show 121 < 123 by decide) (by decide) rfl (by decide) rfl rfl ?_
  show A zP (zCs (sv sio)) zK zTy _ _ _ _ _ (cs101 xs) _
  refine A.run cz170 2 (i' := 8) (ls' := [some (.ref 121)]) (st' := [.int 8, .ref 121]) rfl ?_
  refine A.nb (gI_of cz170 (e := (16, 2, .newarray .int, [])) rfl) (by decide) (by decide) (by decide) ?_
  show A zP (zCs (sv sio)) zK zTy _ _ _ _ _ (cs102 xs) _
  refine A.pr (n := 45) (gI_of cz170 (e := (18, 3, .putfield 13, [9, 4, 2])) rfl) (show 121 < 124 by decide) (by decide) rfl (by decide) rfl rfl ?_
  show A zP (zCs (sv sio)) zK zTy _ _ _ _ _ (cs103 xs) _
  refine A.run cz170 2 (i' := 12) (ls' := [some (.ref 121)]) (st' := [.int 256, .ref 121]) rfl ?_
  refine A.nb (gI_of cz170 (e := (25, 2, .newarray .int, [])) rfl) (by decide) (by decide) (by decide) ?_
  show A zP (zCs (sv sio)) zK zTy _ _ _ _ _ (cs104 xs) _
  refine A.pr (n := 45) (gI_of cz170 (e := (27, 3, .putfield 16, [9, 5, 2])) rfl) (show 121 < 125 by decide) (by decide) rfl (by decide) rfl rfl ?_
  show A zP (zCs (sv sio)) zK zTy _ _ _ _ _ (cs105 xs) _
  refine A.run cz170 2 (i' := 16) (ls' := [some (.ref 121)]) (st' := [.int 8, .ref 121]) rfl ?_
  refine A.nb (gI_of cz170 (e := (33, 2, .newarray .boolean, [])) rfl) (by decide) (by decide) (by decide) ?_
  show A zP (zCs (sv sio)) zK zTy _ _ _ _ _ (cs106 xs) _
  refine A.pr (n := 45) (gI_of cz170 (e := (35, 3, .putfield 19, [9, 6, 2])) rfl) (show 121 < 126 by decide) (by decide) rfl (by decide) rfl rfl ?_
  show A zP (zCs (sv sio)) zK zTy _ _ _ _ _ (cs107 xs) _
  refine A.run cz170 2 (i' := 20) (ls' := [some (.ref 121)]) (st' := [.int 8, .ref 121]) rfl ?_
  refine A.nb (gI_of cz170 (e := (41, 2, .newarray .int, [])) rfl) (by decide) (by decide) (by decide) ?_
  show A zP (zCs (sv sio)) zK zTy _ _ _ _ _ (cs108 xs) _
  refine A.pr (n := 45) (gI_of cz170 (e := (43, 3, .putfield 23, [9, 7, 2])) rfl) (show 121 < 127 by decide) (by decide) rfl (by decide) rfl rfl ?_
  show A zP (zCs (sv sio)) zK zTy _ _ _ _ _ (cs109 xs) _
  refine A.run cz170 2 (i' := 24) (ls' := [some (.ref 121)]) (st' := [.int 9, .ref 121]) rfl ?_
  refine A.nb (gI_of cz170 (e := (49, 2, .newarray .int, [])) rfl) (by decide) (by decide) (by decide) ?_
  show A zP (zCs (sv sio)) zK zTy _ _ _ _ _ (cs110 xs) _
  refine A.pr (n := 45) (gI_of cz170 (e := (51, 3, .putfield 26, [9, 8, 2])) rfl) (show 121 < 128 by decide) (by decide) rfl (by decide) rfl rfl ?_
  show A zP (zCs (sv sio)) zK zTy _ _ _ _ _ (cs111 xs) _
  refine A.run cz170 2 (i' := 28) (ls' := [some (.ref 121)]) (st' := [.int 1152, .ref 121]) rfl ?_
  refine A.nb (gI_of cz170 (e := (58, 2, .newarray .int, [])) rfl) (by decide) (by decide) (by decide) ?_
  show A zP (zCs (sv sio)) zK zTy _ _ _ _ _ (cs112 xs) _
  refine A.pr (n := 45) (gI_of cz170 (e := (60, 3, .putfield 29, [9, 9, 2])) rfl) (show 121 < 129 by decide) (by decide) rfl (by decide) rfl rfl ?_
  show A zP (zCs (sv sio)) zK zTy _ _ _ _ _ (cs113 xs) _
  refine A.run cz170 2 (i' := 32) (ls' := [some (.ref 121)]) (st' := [.int 1152, .ref 121]) rfl ?_
  refine A.nb (gI_of cz170 (e := (67, 2, .newarray .int, [])) rfl) (by decide) (by decide) (by decide) ?_
  show A zP (zCs (sv sio)) zK zTy _ _ _ _ _ (cs114 xs) _
  refine A.pr (n := 45) (gI_of cz170 (e := (69, 3, .putfield 32, [9, 10, 2])) rfl) (show 121 < 130 by decide) (by decide) rfl (by decide) rfl rfl ?_
  show A zP (zCs (sv sio)) zK zTy _ _ _ _ _ (cs115 xs) _
  refine A.run cz170 2 (i' := 36) (ls' := [some (.ref 121)]) (st' := [.int 1152, .ref 121]) rfl ?_
  refine A.nb (gI_of cz170 (e := (76, 2, .newarray .int, [])) rfl) (by decide) (by decide) (by decide) ?_
  show A zP (zCs (sv sio)) zK zTy _ _ _ _ _ (cs116 xs) _
  refine A.pr (n := 45) (gI_of cz170 (e := (78, 3, .putfield 35, [9, 11, 2])) rfl) (show 121 < 131 by decide) (by decide) rfl (by decide) rfl rfl ?_
  show A zP (zCs (sv sio)) zK zTy _ _ _ _ _ (cs117 xs) _
  refine A.run cz170 2 (i' := 40) (ls' := [some (.ref 121)]) (st' := [.int 1152, .ref 121]) rfl ?_
  refine A.nb (gI_of cz170 (e := (85, 2, .newarray .int, [])) rfl) (by decide) (by decide) (by decide) ?_
  show A zP (zCs (sv sio)) zK zTy _ _ _ _ _ (cs118 xs) _
  refine A.pr (n := 45) (gI_of cz170 (e := (87, 3, .putfield 38, [9, 12, 2])) rfl) (show 121 < 132 by decide) (by decide) rfl (by decide) rfl rfl ?_
  show A zP (zCs (sv sio)) zK zTy _ _ _ _ _ (cs119 xs) _
  refine A.run cz170 2 (i' := 44) (ls' := [some (.ref 121)]) (st' := [.int 1152, .ref 121]) rfl ?_
  refine A.nb (gI_of cz170 (e := (94, 2, .newarray .int, [])) rfl) (by decide) (by decide) (by decide) ?_
  show A zP (zCs (sv sio)) zK zTy _ _ _ _ _ (cs120 xs) _
  refine A.pr (n := 45) (gI_of cz170 (e := (96, 3, .putfield 41, [9, 13, 2])) rfl) (show 121 < 133 by decide) (by decide) rfl (by decide) rfl rfl ?_
  show A zP (zCs (sv sio)) zK zTy _ _ _ _ _ (cs121 xs) _
  refine A.run cz170 2 (i' := 48) (ls' := [some (.ref 121)]) (st' := [.int 1152, .ref 121]) rfl ?_
  refine A.nb (gI_of cz170 (e := (103, 2, .newarray .int, [])) rfl) (by decide) (by decide) (by decide) ?_
  show A zP (zCs (sv sio)) zK zTy _ _ _ _ _ (cs122 xs) _
  refine A.pr (n := 45) (gI_of cz170 (e := (105, 3, .putfield 44, [9, 14, 2])) rfl) (show 121 < 134 by decide) (by decide) rfl (by decide) rfl rfl ?_
  show A zP (zCs (sv sio)) zK zTy _ _ _ _ _ (cs123 xs) _
  refine A.run cz170 2 (i' := 52) (ls' := [some (.ref 121)]) (st' := [.int 1152, .ref 121]) rfl ?_
  refine A.nb (gI_of cz170 (e := (112, 2, .newarray .int, [])) rfl) (by decide) (by decide) (by decide) ?_
  show A zP (zCs (sv sio)) zK zTy _ _ _ _ _ (cs124 xs) _
  refine A.pr (n := 45) (gI_of cz170 (e := (114, 3, .putfield 47, [9, 15, 2])) rfl) (show 121 < 135 by decide) (by decide) rfl (by decide) rfl rfl ?_
  show A zP (zCs (sv sio)) zK zTy _ _ _ _ _ (cs125 xs) _
  refine A.run cz170 2 (i' := 56) (ls' := [some (.ref 121)]) (st' := [.int 1152, .ref 121]) rfl ?_
  refine A.nb (gI_of cz170 (e := (121, 2, .newarray .int, [])) rfl) (by decide) (by decide) (by decide) ?_
  show A zP (zCs (sv sio)) zK zTy _ _ _ _ _ (cs126 xs) _
  refine A.pr (n := 45) (gI_of cz170 (e := (123, 3, .putfield 50, [9, 16, 2])) rfl) (show 121 < 136 by decide) (by decide) rfl (by decide) rfl rfl ?_
  show A zP (zCs (sv sio)) zK zTy _ _ _ _ _ (cs127 xs) _
  refine A.run cz170 2 (i' := 60) (ls' := [some (.ref 121)]) (st' := [.int 1152, .ref 121]) rfl ?_
  refine A.nb (gI_of cz170 (e := (130, 2, .newarray .int, [])) rfl) (by decide) (by decide) (by decide) ?_
  show A zP (zCs (sv sio)) zK zTy _ _ _ _ _ (cs128 xs) _
  refine A.pr (n := 45) (gI_of cz170 (e := (132, 3, .putfield 53, [9, 17, 2])) rfl) (show 121 < 137 by decide) (by decide) rfl (by decide) rfl rfl ?_
  show A zP (zCs (sv sio)) zK zTy _ _ _ _ _ (cs129 xs) _
  refine A.run cz170 2 (i' := 64) (ls' := [some (.ref 121)]) (st' := [.int 1152, .ref 121]) rfl ?_
  refine A.nb (gI_of cz170 (e := (139, 2, .newarray .int, [])) rfl) (by decide) (by decide) (by decide) ?_
  show A zP (zCs (sv sio)) zK zTy _ _ _ _ _ (cs130 xs) _
  refine A.pr (n := 45) (gI_of cz170 (e := (141, 3, .putfield 56, [9, 18, 2])) rfl) (show 121 < 138 by decide) (by decide) rfl (by decide) rfl rfl ?_
  show A zP (zCs (sv sio)) zK zTy _ _ _ _ _ (cs131 xs) _
  refine A.run cz170 2 (i' := 68) (ls' := [some (.ref 121)]) (st' := [.int 1152, .ref 121]) rfl ?_
  refine A.nb (gI_of cz170 (e := (148, 2, .newarray .int, [])) rfl) (by decide) (by decide) (by decide) ?_
  show A zP (zCs (sv sio)) zK zTy _ _ _ _ _ (cs132 xs) _
  refine A.pr (n := 45) (gI_of cz170 (e := (150, 3, .putfield 59, [9, 19, 2])) rfl) (show 121 < 139 by decide) (by decide) rfl (by decide) rfl rfl ?_
  show A zP (zCs (sv sio)) zK zTy _ _ _ _ _ (cs133 xs) _
  refine A.run cz170 2 (i' := 72) (ls' := [some (.ref 121)]) (st' := [.int 2304, .ref 121]) rfl ?_
  refine A.nb (gI_of cz170 (e := (157, 2, .newarray .int, [])) rfl) (by decide) (by decide) (by decide) ?_
  show A zP (zCs (sv sio)) zK zTy _ _ _ _ _ (cs134 xs) _
  refine A.pr (n := 45) (gI_of cz170 (e := (159, 3, .putfield 62, [9, 20, 2])) rfl) (show 121 < 140 by decide) (by decide) rfl (by decide) rfl rfl ?_
  show A zP (zCs (sv sio)) zK zTy _ _ _ _ _ (cs135 xs) _
  refine A.run cz170 2 (i' := 76) (ls' := [some (.ref 121)]) (st' := [.int 128, .ref 121]) rfl ?_
  refine A.nb (gI_of cz170 (e := (166, 2, .newarray .int, [])) rfl) (by decide) (by decide) (by decide) ?_
  show A zP (zCs (sv sio)) zK zTy _ _ _ _ _ (cs136 xs) _
  refine A.pr (n := 45) (gI_of cz170 (e := (168, 3, .putfield 65, [9, 22, 2])) rfl) (show 121 < 141 by decide) (by decide) rfl (by decide) rfl rfl ?_
  show A zP (zCs (sv sio)) zK zTy _ _ _ _ _ (cs137 xs) _
  refine A.run cz170 2 (i' := 80) (ls' := [some (.ref 121)]) (st' := [.int 128, .ref 121]) rfl ?_
  refine A.nb (gI_of cz170 (e := (175, 2, .newarray .int, [])) rfl) (by decide) (by decide) (by decide) ?_
  show A zP (zCs (sv sio)) zK zTy _ _ _ _ _ (cs138 xs) _
  refine A.pr (n := 45) (gI_of cz170 (e := (177, 3, .putfield 68, [9, 23, 2])) rfl) (show 121 < 142 by decide) (by decide) rfl (by decide) rfl rfl ?_
  show A zP (zCs (sv sio)) zK zTy _ _ _ _ _ (cs139 xs) _
  refine A.run cz170 2 (i' := 84) (ls' := [some (.ref 121)]) (st' := [.int 128, .ref 121]) rfl ?_
  refine A.nb (gI_of cz170 (e := (184, 2, .newarray .int, [])) rfl) (by decide) (by decide) (by decide) ?_
  show A zP (zCs (sv sio)) zK zTy _ _ _ _ _ (cs140 xs) _
  refine A.pr (n := 45) (gI_of cz170 (e := (186, 3, .putfield 71, [9, 24, 2])) rfl) (show 121 < 143 by decide) (by decide) rfl (by decide) rfl rfl ?_
  show A zP (zCs (sv sio)) zK zTy _ _ _ _ _ (cs141 xs) _
  refine A.run cz170 2 (i' := 88) (ls' := [some (.ref 121)]) (st' := [.int 128, .ref 121]) rfl ?_
  refine A.nb (gI_of cz170 (e := (193, 2, .newarray .int, [])) rfl) (by decide) (by decide) (by decide) ?_
  show A zP (zCs (sv sio)) zK zTy _ _ _ _ _ (cs142 xs) _
  refine A.pr (n := 45) (gI_of cz170 (e := (195, 3, .putfield 74, [9, 25, 2])) rfl) (show 121 < 144 by decide) (by decide) rfl (by decide) rfl rfl ?_
  show A zP (zCs (sv sio)) zK zTy _ _ _ _ _ (cs143 xs) _
  refine A.run cz170 2 (i' := 92) (ls' := [some (.ref 121)]) (st' := [.int 130, .ref 121]) rfl ?_
  refine A.nb (gI_of cz170 (e := (202, 2, .newarray .int, [])) rfl) (by decide) (by decide) (by decide) ?_
  show A zP (zCs (sv sio)) zK zTy _ _ _ _ _ (cs144 xs) _
  refine A.pr (n := 45) (gI_of cz170 (e := (204, 3, .putfield 77, [9, 28, 2])) rfl) (show 121 < 145 by decide) (by decide) rfl (by decide) rfl rfl ?_
  show A zP (zCs (sv sio)) zK zTy _ _ _ _ _ (cs145 xs) _
  refine A.run cz170 2 (i' := 96) (ls' := [some (.ref 121)]) (st' := [.int 300, .ref 121]) rfl ?_
  refine A.nb (gI_of cz170 (e := (211, 2, .newarray .int, [])) rfl) (by decide) (by decide) (by decide) ?_
  show A zP (zCs (sv sio)) zK zTy _ _ _ _ _ (cs146 xs) _
  refine A.pr (n := 45) (gI_of cz170 (e := (213, 3, .putfield 80, [9, 30, 2])) rfl) (show 121 < 146 by decide) (by decide) rfl (by decide) rfl rfl ?_
  show A zP (zCs (sv sio)) zK zTy _ _ _ _ _ (cs147 xs) _
  refine A.run cz170 2 (i' := 100) (ls' := [some (.ref 121)]) (st' := [.int 300, .ref 121]) rfl ?_
  refine A.nb (gI_of cz170 (e := (220, 2, .newarray .int, [])) rfl) (by decide) (by decide) (by decide) ?_
  show A zP (zCs (sv sio)) zK zTy _ _ _ _ _ (cs148 xs) _
  refine A.pr (n := 45) (gI_of cz170 (e := (222, 3, .putfield 83, [9, 31, 2])) rfl) (show 121 < 147 by decide) (by decide) rfl (by decide) rfl rfl ?_
  show A zP (zCs (sv sio)) zK zTy _ _ _ _ _ (cs149 xs) _
  refine A.run cz170 2 (i' := 104) (ls' := [some (.ref 121)]) (st' := [.int 256, .ref 121]) rfl ?_
  refine A.nb (gI_of cz170 (e := (229, 2, .newarray .int, [])) rfl) (by decide) (by decide) (by decide) ?_
  show A zP (zCs (sv sio)) zK zTy _ _ _ _ _ (cs150 xs) _
  refine A.pr (n := 45) (gI_of cz170 (e := (231, 3, .putfield 86, [9, 37, 2])) rfl) (show 121 < 148 by decide) (by decide) rfl (by decide) rfl rfl ?_
  show A zP (zCs (sv sio)) zK zTy _ _ _ _ _ (cs151 xs) _
  exact A.rv cz170 (show zM170.2.2.2.2.2[106]? = some (234, 1, .return_, []) from rfl) rfl
set_option maxRecDepth 100000 in
theorem z_start {sio : Bool} {d : Nat} (xs : List Int32) {o : xZ × aS} (g : A zP (zCs (sv sio)) zK zTy (d + 4) 0 13 [some (.ref 0), some (.ref 78), some (.ref 121), some (.ref 148), some (.int 0), none, none] [] (cs152 xs) o) : A zP (zCs (sv sio)) zK zTy (d + 4) 0 0 [some (.ref 0), none, none, none, none, none, none] [] (cs0 xs) o := by
  refine A.nwd (gI_of cz0 (e := (0, 3, .new 8, [0, 2, 2, 2, 2, 2, 2, 2])) rfl) (by decide) rfl ?_
  show A zP (zCs (sv sio)) zK zTy _ _ _ _ _ (cs1 xs) _
  refine A.run cz0 1 (i' := 2) (ls' := [some (.ref 0), none, none, none, none, none, none]) (st' := [.ref 78, .ref 78]) rfl ?_
  refine A.c (gC_sp (x := 78) cz0 (show zM0.2.2.2.2.2[2]? = some (4, 3, .invokespecial 68, [0, 16, 0]) from rfl) cz16 rfl (show aCr 0 78 [.ref 78, .ref 78] 2 = some ([some (.ref 78), none], [.ref 78]) from rfl)) (cq19 xs) ?_
  show A zP (zCs (sv sio)) zK zTy _ _ _ _ _ (cs98 xs) _
  refine A.run cz0 1 (i' := 4) (ls' := [some (.ref 0), some (.ref 78), none, none, none, none, none]) (st' := []) rfl ?_
  refine A.nwd (gI_of cz0 (e := (8, 3, .new 69, [9, 0, 0, 2, 0, 2, 2, 2, 2, 2, 2, 2, 2, 2, 2, 2, 2, 2, 2, 2, 2, 2, 0, 2, 2, 2, 2, 0, 1, 2, 0, 2, 2, 0, 0, 0, 0, 1, 2, 0, 0, 0, 0, 0, 0, 0])) rfl) (by decide) rfl ?_
  show A zP (zCs (sv sio)) zK zTy _ _ _ _ _ (cs99 xs) _
  refine A.run cz0 1 (i' := 6) (ls' := [some (.ref 0), some (.ref 78), none, none, none, none, none]) (st' := [.ref 121, .ref 121]) rfl ?_
  refine A.c (gC_sp (x := 121) cz0 (show zM0.2.2.2.2.2[6]? = some (12, 3, .invokespecial 71, [0, 170, 0]) from rfl) cz170 rfl (show aCr 0 121 [.ref 121, .ref 121] 1 = some ([some (.ref 121)], [.ref 121]) from rfl)) (cq20 xs) ?_
  show A zP (zCs (sv sio)) zK zTy _ _ _ _ _ (cs151 xs) _
  refine A.run cz0 2 (i' := 9) (ls' := [some (.ref 0), some (.ref 78), some (.ref 121), none, none, none, none]) (st' := [.int 1]) rfl ?_
  refine A.nl (gI_of cz0 (e := (17, 2, .newarray .long, [])) rfl) (by decide) (by decide) ?_
  show A zP (zCs (sv sio)) zK zTy _ _ _ _ _ (cs152 xs) _
  refine A.run cz0 3 (i' := 13) (ls' := [some (.ref 0), some (.ref 78), some (.ref 121), some (.ref 148), some (.int 0), none, none]) (st' := []) rfl ?_
  exact g
set_option maxRecDepth 100000 in
theorem ca1 (xs : List Int32) : ag xs (cs1 xs) (cs1 []) := ag.N (ca0 xs)
set_option maxRecDepth 100000 in
theorem ca2 (xs : List Int32) : ag xs (cs2 xs) (cs2 []) := ag.N (ca1 xs)
set_option maxRecDepth 100000 in
theorem ca3 (xs : List Int32) : ag xs (cs3 xs) (cs3 []) := ag.N (ca2 xs)
set_option maxRecDepth 100000 in
theorem ca4 (xs : List Int32) : ag xs (cs4 xs) (cs4 []) := ag.R (by decide) (ca3 xs)
set_option maxRecDepth 100000 in
theorem ca5 (xs : List Int32) : ag xs (cs5 xs) (cs5 []) := ag.R (by decide) (ca4 xs)
set_option maxRecDepth 100000 in
theorem ca6 (xs : List Int32) : ag xs (cs6 xs) (cs6 []) := ag.N (ca5 xs)
set_option maxRecDepth 100000 in
theorem ca7 (xs : List Int32) : ag xs (cs7 xs) (cs7 []) := ag.N (ca6 xs)
set_option maxRecDepth 100000 in
theorem ca8 (xs : List Int32) : ag xs (cs8 xs) (cs8 []) := ag.R (by decide) (ca7 xs)
set_option maxRecDepth 100000 in
theorem ca9 (xs : List Int32) : ag xs (cs9 xs) (cs9 []) := ag.N (ca8 xs)
set_option maxRecDepth 100000 in
theorem ca10 (xs : List Int32) : ag xs (cs10 xs) (cs10 []) := ag.R (by decide) (ca9 xs)
set_option maxRecDepth 100000 in
theorem ca11 (xs : List Int32) : ag xs (cs11 xs) (cs11 []) := ag.N (ca10 xs)
set_option maxRecDepth 100000 in
theorem ca12 (xs : List Int32) : ag xs (cs12 xs) (cs12 []) := ag.N (ca11 xs)
set_option maxRecDepth 100000 in
theorem ca13 (xs : List Int32) : ag xs (cs13 xs) (cs13 []) := ag.R (by decide) (ca12 xs)
set_option maxRecDepth 100000 in
theorem ca14 (xs : List Int32) : ag xs (cs14 xs) (cs14 []) := ag.R (by decide) (ca13 xs)
set_option maxRecDepth 100000 in
theorem ca15 (xs : List Int32) : ag xs (cs15 xs) (cs15 []) := ag.N (ca14 xs)
set_option maxRecDepth 100000 in
theorem ca16 (xs : List Int32) : ag xs (cs16 xs) (cs16 []) := ag.N (ca15 xs)
set_option maxRecDepth 100000 in
theorem ca17 (xs : List Int32) : ag xs (cs17 xs) (cs17 []) := ag.R (by decide) (ca16 xs)
set_option maxRecDepth 100000 in
theorem ca18 (xs : List Int32) : ag xs (cs18 xs) (cs18 []) := ag.R (by decide) (ca17 xs)
set_option maxRecDepth 100000 in
theorem ca19 (xs : List Int32) : ag xs (cs19 xs) (cs19 []) := ag.N (ca18 xs)
set_option maxRecDepth 100000 in
theorem ca20 (xs : List Int32) : ag xs (cs20 xs) (cs20 []) := ag.N (ca19 xs)
set_option maxRecDepth 100000 in
theorem ca21 (xs : List Int32) : ag xs (cs21 xs) (cs21 []) := ag.R (by decide) (ca20 xs)
set_option maxRecDepth 100000 in
theorem ca22 (xs : List Int32) : ag xs (cs22 xs) (cs22 []) := ag.R (by decide) (ca21 xs)
set_option maxRecDepth 100000 in
theorem ca23 (xs : List Int32) : ag xs (cs23 xs) (cs23 []) := ag.N (ca22 xs)
set_option maxRecDepth 100000 in
theorem ca24 (xs : List Int32) : ag xs (cs24 xs) (cs24 []) := ag.N (ca23 xs)
set_option maxRecDepth 100000 in
theorem ca25 (xs : List Int32) : ag xs (cs25 xs) (cs25 []) := ag.R (by decide) (ca24 xs)
set_option maxRecDepth 100000 in
theorem ca26 (xs : List Int32) : ag xs (cs26 xs) (cs26 []) := ag.R (by decide) (ca25 xs)
set_option maxRecDepth 100000 in
theorem ca27 (xs : List Int32) : ag xs (cs27 xs) (cs27 []) := ag.N (ca26 xs)
set_option maxRecDepth 100000 in
theorem ca28 (xs : List Int32) : ag xs (cs28 xs) (cs28 []) := ag.N (ca27 xs)
set_option maxRecDepth 100000 in
theorem ca29 (xs : List Int32) : ag xs (cs29 xs) (cs29 []) := ag.R (by decide) (ca28 xs)
set_option maxRecDepth 100000 in
theorem ca30 (xs : List Int32) : ag xs (cs30 xs) (cs30 []) := ag.R (by decide) (ca29 xs)
set_option maxRecDepth 100000 in
theorem ca31 (xs : List Int32) : ag xs (cs31 xs) (cs31 []) := ag.N (ca30 xs)
set_option maxRecDepth 100000 in
theorem ca32 (xs : List Int32) : ag xs (cs32 xs) (cs32 []) := ag.N (ca31 xs)
set_option maxRecDepth 100000 in
theorem ca33 (xs : List Int32) : ag xs (cs33 xs) (cs33 []) := ag.R (by decide) (ca32 xs)
set_option maxRecDepth 100000 in
theorem ca34 (xs : List Int32) : ag xs (cs34 xs) (cs34 []) := ag.R (by decide) (ca33 xs)
set_option maxRecDepth 100000 in
theorem ca35 (xs : List Int32) : ag xs (cs35 xs) (cs35 []) := ag.N (ca34 xs)
set_option maxRecDepth 100000 in
theorem ca36 (xs : List Int32) : ag xs (cs36 xs) (cs36 []) := ag.N (ca35 xs)
set_option maxRecDepth 100000 in
theorem ca37 (xs : List Int32) : ag xs (cs37 xs) (cs37 []) := ag.R (by decide) (ca36 xs)
set_option maxRecDepth 100000 in
theorem ca38 (xs : List Int32) : ag xs (cs38 xs) (cs38 []) := ag.R (by decide) (ca37 xs)
set_option maxRecDepth 100000 in
theorem ca39 (xs : List Int32) : ag xs (cs39 xs) (cs39 []) := ag.N (ca38 xs)
set_option maxRecDepth 100000 in
theorem ca40 (xs : List Int32) : ag xs (cs40 xs) (cs40 []) := ag.N (ca39 xs)
set_option maxRecDepth 100000 in
theorem ca41 (xs : List Int32) : ag xs (cs41 xs) (cs41 []) := ag.R (by decide) (ca40 xs)
set_option maxRecDepth 100000 in
theorem ca42 (xs : List Int32) : ag xs (cs42 xs) (cs42 []) := ag.R (by decide) (ca41 xs)
set_option maxRecDepth 100000 in
theorem ca43 (xs : List Int32) : ag xs (cs43 xs) (cs43 []) := ag.R (by decide) (ca42 xs)
set_option maxRecDepth 100000 in
theorem ca44 (xs : List Int32) : ag xs (cs44 xs) (cs44 []) := ag.N (ca43 xs)
set_option maxRecDepth 100000 in
theorem ca45 (xs : List Int32) : ag xs (cs45 xs) (cs45 []) := ag.R (by decide) (ca44 xs)
set_option maxRecDepth 100000 in
theorem ca46 (xs : List Int32) : ag xs (cs46 xs) (cs46 []) := ag.N (ca45 xs)
set_option maxRecDepth 100000 in
theorem ca47 (xs : List Int32) : ag xs (cs47 xs) (cs47 []) := ag.R (by decide) (ca46 xs)
set_option maxRecDepth 100000 in
theorem ca48 (xs : List Int32) : ag xs (cs48 xs) (cs48 []) := ag.I (by decide) (ca47 xs)
set_option maxRecDepth 100000 in
theorem ca49 (xs : List Int32) : ag xs (cs49 xs) (cs49 []) := ag.I (by decide) (ca48 xs)
set_option maxRecDepth 100000 in
theorem ca50 (xs : List Int32) : ag xs (cs50 xs) (cs50 []) := ag.I (by decide) (ca49 xs)
set_option maxRecDepth 100000 in
theorem ca51 (xs : List Int32) : ag xs (cs51 xs) (cs51 []) := ag.I (by decide) (ca50 xs)
set_option maxRecDepth 100000 in
theorem ca52 (xs : List Int32) : ag xs (cs52 xs) (cs52 []) := ag.I (by decide) (ca51 xs)
set_option maxRecDepth 100000 in
theorem ca53 (xs : List Int32) : ag xs (cs53 xs) (cs53 []) := ag.I (by decide) (ca52 xs)
set_option maxRecDepth 100000 in
theorem ca54 (xs : List Int32) : ag xs (cs54 xs) (cs54 []) := ag.I (by decide) (ca53 xs)
set_option maxRecDepth 100000 in
theorem ca55 (xs : List Int32) : ag xs (cs55 xs) (cs55 []) := ag.I (by decide) (ca54 xs)
set_option maxRecDepth 100000 in
theorem ca56 (xs : List Int32) : ag xs (cs56 xs) (cs56 []) := ag.N (ca55 xs)
set_option maxRecDepth 100000 in
theorem ca57 (xs : List Int32) : ag xs (cs57 xs) (cs57 []) := ag.N (ca56 xs)
set_option maxRecDepth 100000 in
theorem ca58 (xs : List Int32) : ag xs (cs58 xs) (cs58 []) := ag.R (by decide) (ca57 xs)
set_option maxRecDepth 100000 in
theorem ca59 (xs : List Int32) : ag xs (cs59 xs) (cs59 []) := ag.N (ca58 xs)
set_option maxRecDepth 100000 in
theorem ca60 (xs : List Int32) : ag xs (cs60 xs) (cs60 []) := ag.N (ca59 xs)
set_option maxRecDepth 100000 in
theorem ca61 (xs : List Int32) : ag xs (cs61 xs) (cs61 []) := ag.R (by decide) (ca60 xs)
set_option maxRecDepth 100000 in
theorem ca62 (xs : List Int32) : ag xs (cs62 xs) (cs62 []) := ag.R (by decide) (ca61 xs)
set_option maxRecDepth 100000 in
theorem ca63 (xs : List Int32) : ag xs (cs63 xs) (cs63 []) := ag.R (by decide) (ca62 xs)
set_option maxRecDepth 100000 in
theorem ca64 (xs : List Int32) : ag xs (cs64 xs) (cs64 []) := ag.N (ca63 xs)
set_option maxRecDepth 100000 in
theorem ca65 (xs : List Int32) : ag xs (cs65 xs) (cs65 []) := ag.N (ca64 xs)
set_option maxRecDepth 100000 in
theorem ca66 (xs : List Int32) : ag xs (cs66 xs) (cs66 []) := ag.N (ca65 xs)
set_option maxRecDepth 100000 in
theorem ca67 (xs : List Int32) : ag xs (cs67 xs) (cs67 []) := ag.R (by decide) (ca66 xs)
set_option maxRecDepth 100000 in
theorem ca68 (xs : List Int32) : ag xs (cs68 xs) (cs68 []) := ag.R (by decide) (ca67 xs)
set_option maxRecDepth 100000 in
theorem ca69 (xs : List Int32) : ag xs (cs69 xs) (cs69 []) := ag.N (ca68 xs)
set_option maxRecDepth 100000 in
theorem ca70 (xs : List Int32) : ag xs (cs70 xs) (cs70 []) := ag.R (by decide) (ca69 xs)
set_option maxRecDepth 100000 in
theorem ca71 (xs : List Int32) : ag xs (cs71 xs) (cs71 []) := ag.N (ca70 xs)
set_option maxRecDepth 100000 in
theorem ca72 (xs : List Int32) : ag xs (cs72 xs) (cs72 []) := ag.N (ca71 xs)
set_option maxRecDepth 100000 in
theorem ca73 (xs : List Int32) : ag xs (cs73 xs) (cs73 []) := ag.R (by decide) (ca72 xs)
set_option maxRecDepth 100000 in
theorem ca74 (xs : List Int32) : ag xs (cs74 xs) (cs74 []) := ag.N (ca73 xs)
set_option maxRecDepth 100000 in
theorem ca75 (xs : List Int32) : ag xs (cs75 xs) (cs75 []) := ag.R (by decide) (ca74 xs)
set_option maxRecDepth 100000 in
theorem ca76 (xs : List Int32) : ag xs (cs76 xs) (cs76 []) := ag.R (by decide) (ca75 xs)
set_option maxRecDepth 100000 in
theorem ca77 (xs : List Int32) : ag xs (cs77 xs) (cs77 []) := ag.N (ca76 xs)
set_option maxRecDepth 100000 in
theorem ca78 (xs : List Int32) : ag xs (cs78 xs) (cs78 []) := ag.N (ca77 xs)
set_option maxRecDepth 100000 in
theorem ca79 (xs : List Int32) : ag xs (cs79 xs) (cs79 []) := ag.R (by decide) (ca78 xs)
set_option maxRecDepth 100000 in
theorem ca80 (xs : List Int32) : ag xs (cs80 xs) (cs80 []) := ag.N (ca79 xs)
set_option maxRecDepth 100000 in
theorem ca81 (xs : List Int32) : ag xs (cs81 xs) (cs81 []) := ag.R (by decide) (ca80 xs)
set_option maxRecDepth 100000 in
theorem ca82 (xs : List Int32) : ag xs (cs82 xs) (cs82 []) := ag.N (ca81 xs)
set_option maxRecDepth 100000 in
theorem ca83 (xs : List Int32) : ag xs (cs83 xs) (cs83 []) := ag.R (by decide) (ca82 xs)
set_option maxRecDepth 100000 in
theorem ca84 (xs : List Int32) : ag xs (cs84 xs) (cs84 []) := ag.R (by decide) (ca83 xs)
set_option maxRecDepth 100000 in
theorem ca85 (xs : List Int32) : ag xs (cs85 xs) (cs85 []) := ag.R (by decide) (ca84 xs)
set_option maxRecDepth 100000 in
theorem ca86 (xs : List Int32) : ag xs (cs86 xs) (cs86 []) := ag.R (by decide) (ca85 xs)
set_option maxRecDepth 100000 in
theorem ca87 (xs : List Int32) : ag xs (cs87 xs) (cs87 []) := ag.R (by decide) (ca86 xs)
set_option maxRecDepth 100000 in
theorem ca88 (xs : List Int32) : ag xs (cs88 xs) (cs88 []) := ag.R (by decide) (ca87 xs)
set_option maxRecDepth 100000 in
theorem ca89 (xs : List Int32) : ag xs (cs89 xs) (cs89 []) := ag.N (ca88 xs)
set_option maxRecDepth 100000 in
theorem ca90 (xs : List Int32) : ag xs (cs90 xs) (cs90 []) := ag.N (ca89 xs)
set_option maxRecDepth 100000 in
theorem ca91 (xs : List Int32) : ag xs (cs91 xs) (cs91 []) := ag.R (by decide) (ca90 xs)
set_option maxRecDepth 100000 in
theorem ca92 (xs : List Int32) : ag xs (cs92 xs) (cs92 []) := ag.N (ca91 xs)
set_option maxRecDepth 100000 in
theorem ca93 (xs : List Int32) : ag xs (cs93 xs) (cs93 []) := ag.R (by decide) (ca92 xs)
set_option maxRecDepth 100000 in
theorem ca94 (xs : List Int32) : ag xs (cs94 xs) (cs94 []) := ag.N (ca93 xs)
set_option maxRecDepth 100000 in
theorem ca95 (xs : List Int32) : ag xs (cs95 xs) (cs95 []) := ag.R (by decide) (ca94 xs)
set_option maxRecDepth 100000 in
theorem ca96 (xs : List Int32) : ag xs (cs96 xs) (cs96 []) := ag.R (by decide) (ca95 xs)
set_option maxRecDepth 100000 in
theorem ca97 (xs : List Int32) : ag xs (cs97 xs) (cs97 []) := ag.R (by decide) (ca96 xs)
set_option maxRecDepth 100000 in
theorem ca98 (xs : List Int32) : ag xs (cs98 xs) (cs98 []) := ag.R (by decide) (ca97 xs)
set_option maxRecDepth 100000 in
theorem ca99 (xs : List Int32) : ag xs (cs99 xs) (cs99 []) := ag.N (ca98 xs)
set_option maxRecDepth 100000 in
theorem ca100 (xs : List Int32) : ag xs (cs100 xs) (cs100 []) := ag.N (ca99 xs)
set_option maxRecDepth 100000 in
theorem ca101 (xs : List Int32) : ag xs (cs101 xs) (cs101 []) := ag.R (by decide) (ca100 xs)
set_option maxRecDepth 100000 in
theorem ca102 (xs : List Int32) : ag xs (cs102 xs) (cs102 []) := ag.N (ca101 xs)
set_option maxRecDepth 100000 in
theorem ca103 (xs : List Int32) : ag xs (cs103 xs) (cs103 []) := ag.R (by decide) (ca102 xs)
set_option maxRecDepth 100000 in
theorem ca104 (xs : List Int32) : ag xs (cs104 xs) (cs104 []) := ag.N (ca103 xs)
set_option maxRecDepth 100000 in
theorem ca105 (xs : List Int32) : ag xs (cs105 xs) (cs105 []) := ag.R (by decide) (ca104 xs)
set_option maxRecDepth 100000 in
theorem ca106 (xs : List Int32) : ag xs (cs106 xs) (cs106 []) := ag.N (ca105 xs)
set_option maxRecDepth 100000 in
theorem ca107 (xs : List Int32) : ag xs (cs107 xs) (cs107 []) := ag.R (by decide) (ca106 xs)
set_option maxRecDepth 100000 in
theorem ca108 (xs : List Int32) : ag xs (cs108 xs) (cs108 []) := ag.N (ca107 xs)
set_option maxRecDepth 100000 in
theorem ca109 (xs : List Int32) : ag xs (cs109 xs) (cs109 []) := ag.R (by decide) (ca108 xs)
set_option maxRecDepth 100000 in
theorem ca110 (xs : List Int32) : ag xs (cs110 xs) (cs110 []) := ag.N (ca109 xs)
set_option maxRecDepth 100000 in
theorem ca111 (xs : List Int32) : ag xs (cs111 xs) (cs111 []) := ag.R (by decide) (ca110 xs)
set_option maxRecDepth 100000 in
theorem ca112 (xs : List Int32) : ag xs (cs112 xs) (cs112 []) := ag.N (ca111 xs)
set_option maxRecDepth 100000 in
theorem ca113 (xs : List Int32) : ag xs (cs113 xs) (cs113 []) := ag.R (by decide) (ca112 xs)
set_option maxRecDepth 100000 in
theorem ca114 (xs : List Int32) : ag xs (cs114 xs) (cs114 []) := ag.N (ca113 xs)
set_option maxRecDepth 100000 in
theorem ca115 (xs : List Int32) : ag xs (cs115 xs) (cs115 []) := ag.R (by decide) (ca114 xs)
set_option maxRecDepth 100000 in
theorem ca116 (xs : List Int32) : ag xs (cs116 xs) (cs116 []) := ag.N (ca115 xs)
set_option maxRecDepth 100000 in
theorem ca117 (xs : List Int32) : ag xs (cs117 xs) (cs117 []) := ag.R (by decide) (ca116 xs)
set_option maxRecDepth 100000 in
theorem ca118 (xs : List Int32) : ag xs (cs118 xs) (cs118 []) := ag.N (ca117 xs)
set_option maxRecDepth 100000 in
theorem ca119 (xs : List Int32) : ag xs (cs119 xs) (cs119 []) := ag.R (by decide) (ca118 xs)
set_option maxRecDepth 100000 in
theorem ca120 (xs : List Int32) : ag xs (cs120 xs) (cs120 []) := ag.N (ca119 xs)
set_option maxRecDepth 100000 in
theorem ca121 (xs : List Int32) : ag xs (cs121 xs) (cs121 []) := ag.R (by decide) (ca120 xs)
set_option maxRecDepth 100000 in
theorem ca122 (xs : List Int32) : ag xs (cs122 xs) (cs122 []) := ag.N (ca121 xs)
set_option maxRecDepth 100000 in
theorem ca123 (xs : List Int32) : ag xs (cs123 xs) (cs123 []) := ag.R (by decide) (ca122 xs)
set_option maxRecDepth 100000 in
theorem ca124 (xs : List Int32) : ag xs (cs124 xs) (cs124 []) := ag.N (ca123 xs)
set_option maxRecDepth 100000 in
theorem ca125 (xs : List Int32) : ag xs (cs125 xs) (cs125 []) := ag.R (by decide) (ca124 xs)
set_option maxRecDepth 100000 in
theorem ca126 (xs : List Int32) : ag xs (cs126 xs) (cs126 []) := ag.N (ca125 xs)
set_option maxRecDepth 100000 in
theorem ca127 (xs : List Int32) : ag xs (cs127 xs) (cs127 []) := ag.R (by decide) (ca126 xs)
set_option maxRecDepth 100000 in
theorem ca128 (xs : List Int32) : ag xs (cs128 xs) (cs128 []) := ag.N (ca127 xs)
set_option maxRecDepth 100000 in
theorem ca129 (xs : List Int32) : ag xs (cs129 xs) (cs129 []) := ag.R (by decide) (ca128 xs)
set_option maxRecDepth 100000 in
theorem ca130 (xs : List Int32) : ag xs (cs130 xs) (cs130 []) := ag.N (ca129 xs)
set_option maxRecDepth 100000 in
theorem ca131 (xs : List Int32) : ag xs (cs131 xs) (cs131 []) := ag.R (by decide) (ca130 xs)
set_option maxRecDepth 100000 in
theorem ca132 (xs : List Int32) : ag xs (cs132 xs) (cs132 []) := ag.N (ca131 xs)
set_option maxRecDepth 100000 in
theorem ca133 (xs : List Int32) : ag xs (cs133 xs) (cs133 []) := ag.R (by decide) (ca132 xs)
set_option maxRecDepth 100000 in
theorem ca134 (xs : List Int32) : ag xs (cs134 xs) (cs134 []) := ag.N (ca133 xs)
set_option maxRecDepth 100000 in
theorem ca135 (xs : List Int32) : ag xs (cs135 xs) (cs135 []) := ag.R (by decide) (ca134 xs)
set_option maxRecDepth 100000 in
theorem ca136 (xs : List Int32) : ag xs (cs136 xs) (cs136 []) := ag.N (ca135 xs)
set_option maxRecDepth 100000 in
theorem ca137 (xs : List Int32) : ag xs (cs137 xs) (cs137 []) := ag.R (by decide) (ca136 xs)
set_option maxRecDepth 100000 in
theorem ca138 (xs : List Int32) : ag xs (cs138 xs) (cs138 []) := ag.N (ca137 xs)
set_option maxRecDepth 100000 in
theorem ca139 (xs : List Int32) : ag xs (cs139 xs) (cs139 []) := ag.R (by decide) (ca138 xs)
set_option maxRecDepth 100000 in
theorem ca140 (xs : List Int32) : ag xs (cs140 xs) (cs140 []) := ag.N (ca139 xs)
set_option maxRecDepth 100000 in
theorem ca141 (xs : List Int32) : ag xs (cs141 xs) (cs141 []) := ag.R (by decide) (ca140 xs)
set_option maxRecDepth 100000 in
theorem ca142 (xs : List Int32) : ag xs (cs142 xs) (cs142 []) := ag.N (ca141 xs)
set_option maxRecDepth 100000 in
theorem ca143 (xs : List Int32) : ag xs (cs143 xs) (cs143 []) := ag.R (by decide) (ca142 xs)
set_option maxRecDepth 100000 in
theorem ca144 (xs : List Int32) : ag xs (cs144 xs) (cs144 []) := ag.N (ca143 xs)
set_option maxRecDepth 100000 in
theorem ca145 (xs : List Int32) : ag xs (cs145 xs) (cs145 []) := ag.R (by decide) (ca144 xs)
set_option maxRecDepth 100000 in
theorem ca146 (xs : List Int32) : ag xs (cs146 xs) (cs146 []) := ag.N (ca145 xs)
set_option maxRecDepth 100000 in
theorem ca147 (xs : List Int32) : ag xs (cs147 xs) (cs147 []) := ag.R (by decide) (ca146 xs)
set_option maxRecDepth 100000 in
theorem ca148 (xs : List Int32) : ag xs (cs148 xs) (cs148 []) := ag.N (ca147 xs)
set_option maxRecDepth 100000 in
theorem ca149 (xs : List Int32) : ag xs (cs149 xs) (cs149 []) := ag.R (by decide) (ca148 xs)
set_option maxRecDepth 100000 in
theorem ca150 (xs : List Int32) : ag xs (cs150 xs) (cs150 []) := ag.N (ca149 xs)
set_option maxRecDepth 100000 in
theorem ca151 (xs : List Int32) : ag xs (cs151 xs) (cs151 []) := ag.R (by decide) (ca150 xs)
set_option maxRecDepth 100000 in
theorem ca152 (xs : List Int32) : ag xs (cs152 xs) (cs152 []) := ag.N (ca151 xs)
abbrev csE (xs : List Int32) : aS := cs152 xs
set_option maxRecDepth 100000 in
theorem caE (xs : List Int32) : ag xs (csE xs) (csE []) := ca152 xs
