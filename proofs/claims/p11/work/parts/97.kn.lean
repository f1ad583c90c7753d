/-! the reader of FormulaTrees, exactly: a step at an operand; what the reference's steps leave -/
section XX
variable {s s1 : aS} {b i : Nat} {t : List Int32} {ns : List (List Int32)} {F : List Fw} {cur M : List NN} {fr : Int32} {lc : Nat}
set_option maxRecDepth 100000 in
theorem d103_o {c : Int32} (h : ¬ (c = 34 ∨ c = 35 ∨ c = 36 ∨ c = 39 ∨ c = 40 ∨ c = 41 ∨ c = 43 ∨ c = 44 ∨ c = 45)) : dm103 c s = bu (dm47 c) fun r93 => if r93 = 0 then (if c = 46 then dm103_52 s else bu (dm44 c) fun r98 => if r98 = 0 then nx (wI s 106 8 (sI s 106 7)) fun s100 => some s100 else bu (dm123 s) fun s105 => some s105) else dm103_52 s := by
  unfold dm103
  rw [if_neg (fun z => h (by simp [z])), if_neg (fun z => h (by simp [z])), if_neg (fun z => h (by simp [z]))]
  by_cases c37 : c = 37
  · rw [if_pos c37]
  · rw [if_neg c37]
    by_cases c38 : c = 38
    · rw [if_pos c38]
    · rw [if_neg c38, if_neg (fun z => h (by simp [z])), if_neg (fun z => h (by simp [z])), if_neg (fun z => h (by simp [z]))]
      by_cases c42 : c = 42
      · rw [if_pos c42]
      · rw [if_neg c42, if_neg (fun z => h (by simp [z])), if_neg (fun z => h (by simp [z])), if_neg (fun z => h (by simp [z]))]
set_option maxRecDepth 100000 in
theorem pr_n {p : Nat} (h : ¬ prB (t.getD p 0)) : mPrim t ns F (fl F).length p = .inl p := by
  unfold mPrim
  rw [if_pos (Or.inl (b01_ne.mpr h))]
set_option maxRecDepth 100000 in
/-- at an operand -/
theorem x103 (h : XI s b t ns i F [] fr 0) (hF : ∀ f ∈ F, gdF ns f) (hfr : frI fr F) (hi : i < t.length) (hno : ¬ ((t.getD i 0 = 41 ∨ t.getD i 0 = 44) ∧ ¬ fr = 0 ∧ ¬ (t.getD i 0 = 41 ∧ fr = 1))) : OC b t ns F i (mOpd t ns i F fr) (dm103 (t.getD i (-1)) s) := by
  have hl := h.1.1.2.1
  have hb := xb h.1
  have h8l := fl8 h
  have hfl := flC_len F
  obtain ⟨K, -, B, h7, h8, h9, -⟩ := id h
  have T := h.tr
  rw [gd_in hi]
  obtain ⟨c, hc⟩ : ∃ c, c = t.getD i 0 := ⟨_, rfl⟩
  rw [← hc] at hno ⊢
  have hfr0 : (¬ fr ≤ 0) ↔ ¬ fr = 0 := by
    rcases hfr with z | ⟨z, -⟩ | ⟨z, -⟩ <;> rw [z] <;> decide
  -- a primary
  have prim : ¬ c = 43 → ¬ c = 45 → ¬ c = 40 → ¬ (c = 41 ∧ fr = 1) → mOpd t ns i F fr = mPrim t ns F (fl F).length i := by
    intro n1 n2 n3 n4
    unfold mOpd
    rw [← hc, if_neg n1, if_neg n2, if_neg n3, if_neg n4, if_neg (fun z => hno ⟨z.1, hfr0.mp z.2, n4⟩)]
  have tok : ∀ {X : Prop} {z : Nat} {n : NN} {D : Option aS} {Y : Nat ⊕ St}, prB c → Tk b s (flC F) X z n D → (¬ X → ∃ p, mTok t ns F (fl F).length i = .inl p) → (X → mTok t ns F (fl F).length i = .inr (z, F, [n], 0, 0)) → OC b t ns F i (mPrim t ns F (fl F).length i) D := by
    intro X z n D Y hp hT q1 q2
    refine OC.tk h hT (fun q => ?_) (fun q q8 => ?_)
    · by_cases c8 : (flC F).length = 128
      · exact ⟨i, pr_l c8⟩
      · rw [pr_t (by omega) (by rw [← hc]; exact hp)]
        exact q1 (q.resolve_right c8)
    · rw [pr_t q8 (by rw [← hc]; exact hp)]
      exact q2 q
  have tkT : mTok t ns F (fl F).length i = if b01 (isD c ∨ c = 46) = 1 then (if (lexN t i).1 = 0 then .inl (lexN t i).2 else .inr ((lexN t i).2, F, [((fl F).length, plF 0 0, (sl t i (lexN t i).2).map gr)], 0, 0)) else if c = 34 then (match qtA t 34 i with
    | none => .inl t.length
    | some (u, e2) => .inr (e2, F, [((fl F).length, plF 1 0, u)], 0, 0)) else if c = 35 then (if (erG t i 8 0).1 = 0 then .inl (erG t i 8 0).2 else .inr ((erG t i 8 0).2, F, [((fl F).length, setN (plF 2 0) 8 (erG t i 8 0).1, [])], 0, 0)) else if c = 39 then mPre t ns F (fl F).length i else if c = 36 then mCell t F (fl F).length (-1) i else mWord t ns F (fl F).length i := by
    rw [hc]
    rfl
  by_cases s34 : c = 34
  · rw [prim (by rw [s34]; decide) (by rw [s34]; decide) (by rw [s34]; decide) (fun z => by rw [s34] at z; exact absurd z.1 (by decide))]
    unfold dm103
    rw [if_pos s34]
    have nd : ¬ b01 (isD c ∨ c = 46) = 1 := by rw [s34, b01_f (by unfold isD; decide)]; decide
    rw [if_neg nd, if_pos s34] at tkT
    rcases x104 (q := (fl F).length) K T hi h7 h8 with ⟨u, e, q1, q2, q3⟩ | ⟨q1, q2⟩
    · refine OC.bx (tok (Y := .inl 0) (by rw [s34]; exact Or.inr (Or.inr (Or.inl rfl))) q3 (fun z => absurd trivial z) (fun _ => ?_))
      rw [tkT, q1]
    · refine OC.bx (OC.w q2 (Or.inl ?_))
      by_cases c8 : (flC F).length = 128
      · exact ⟨i, pr_l c8⟩
      · rw [pr_t (by omega) (by rw [← hc, s34]; exact Or.inr (Or.inr (Or.inl rfl))), tkT, q1]
        exact ⟨_, rfl⟩
  · by_cases s35 : c = 35
    · rw [prim (by rw [s35]; decide) (by rw [s35]; decide) (by rw [s35]; decide) (fun z => by rw [s35] at z; exact absurd z.1 (by decide))]
      unfold dm103
      rw [if_neg s34, if_pos s35]
      have nd : ¬ b01 (isD c ∨ c = 46) = 1 := by rw [s35, b01_f (by unfold isD; decide)]; decide
      rw [if_neg nd, if_neg s34, if_pos s35] at tkT
      refine OC.bx (tok (Y := .inl 0) (by rw [s35]; exact Or.inr (Or.inr (Or.inr (Or.inl rfl)))) (x108 (q := (fl F).length) K T hi h7 h8) (fun z => ?_) (fun z => ?_))
      · rw [tkT, if_pos (Classical.byContradiction fun y => z y)]
        exact ⟨_, rfl⟩
      · rw [tkT, if_neg z]
    · by_cases s36 : c = 36
      · rw [prim (by rw [s36]; decide) (by rw [s36]; decide) (by rw [s36]; decide) (fun z => by rw [s36] at z; exact absurd z.1 (by decide))]
        unfold dm103
        rw [if_neg s34, if_neg s35, if_pos s36, h7]
        have nd : ¬ b01 (isD c ∨ c = 46) = 1 := by rw [s36, b01_f (by unfold isD; decide)]; decide
        rw [if_neg nd, if_neg s34, if_neg s35, if_neg (by rw [s36]; decide), if_pos s36] at tkT
        refine (OC.r h K (ch.refl _ s) T h7 h8 (Nat.le_refl _) (by omega) (by omega) ?_).bx
        by_cases c8 : (flC F).length = 128
        · exact Or.inr ⟨⟨i, pr_l c8⟩, Or.inl c8⟩
        · left
          refine ⟨?_, by omega⟩
          rw [pr_t (by omega) (by rw [← hc, s36]; exact Or.inr (Or.inr (Or.inr (Or.inr (Or.inr (Or.inl rfl)))))), tkT]
      · by_cases s39 : c = 39
        · rw [prim (by rw [s39]; decide) (by rw [s39]; decide) (by rw [s39]; decide) (fun z => by rw [s39] at z; exact absurd z.1 (by decide))]
          have e : dm103 c s = bu (dm113 s) fun s48 => some s48 := by
            unfold dm103
            rw [s39]
            rfl
          rw [e]
          exact (x113 h hi (by rw [← hc]; exact s39)).bx
        · by_cases s40 : c = 40
          · have e : dm103 c s = bu (dm115 (Int32.ofNat (flC F).length) (-1) s) fun s58 => some s58 := by
              unfold dm103
              rw [s40, if_neg (by decide), if_neg (by decide), if_neg (by decide), if_neg (by decide), if_neg (by decide), if_neg (by decide), if_pos rfl, (xtr K).1, if_pos (xk K)]
              unfold dm94
              simp only [bu_some]
              rw [T.1]
            rw [e]
            have eM : mOpd t ns i F fr = if nO F = 32 then .inl i else .inr (i + 1, (100, dN, [], []) :: F, [], 0, 0) := by
              unfold mOpd
              rw [← hc, if_neg (by rw [s40]; decide), if_neg (by rw [s40]; decide), if_pos s40]
            rw [eM]
            rcases x115 (pl := (flC F).length) (v := -1) B h7 (by omega) with ⟨r1, s5, r2, r3⟩ | ⟨r1, s5, r2, r3, r4, r5, r6⟩
            · rw [bO_len] at r1
              rw [r2, if_pos r1]
              exact ⟨s5, rfl, Or.inl ⟨r3, dead.l⟩⟩
            · rw [bO_len] at r1
              rw [r2, if_neg (by omega)]
              have e9 : flC ((100, dN, [], []) :: F) ++ [] = flC F := by
                rw [List.append_nil]
                show flC F ++ [] = flC F
                rw [List.append_nil]
              refine ⟨s5, rfl, Or.inr (Or.inl ⟨_, rfl, K.of (b := b) (r6.mono fun a k z => aPC z), ?_, r3, r4, (r6.i (by unfold aP; omega)).trans h8, by rw [r5]; rfl, fun z => absurd rfl z⟩)⟩
              show TR s5 b (i + 1) (flC ((100, dN, [], []) :: F) ++ [])
              rw [e9]
              exact (aPt T hb r6).up (by omega)
          · by_cases s41 : c = 41
            · have e : dm103 c s = bu (dm119 1 s) fun s3 => some s3 := by
                unfold dm103 dm103_44
                rw [s41]
                rfl
              rw [e]
              obtain ⟨s', q1, q2⟩ := x119 (c := c) (v := 1) h hF hfr hi hc.symm (Or.inl ⟨s41, rfl⟩)
              rw [q1]
              rcases q2 with ⟨q2, q3⟩ | ⟨-, q3, f, F0, q4, q5⟩ | ⟨q3, q4, -⟩
              · rw [prim (by rw [s41]; decide) (by rw [s41]; decide) (by rw [s41]; decide) (fun z => by rw [q2] at z; exact absurd z.2 (by decide)), pr_n (by rw [← hc, s41]; unfold prB bW isL isD; decide)]
                exact ⟨s', rfl, Or.inl ⟨q3, dead.l⟩⟩
              · have eM : mOpd t ns i F fr = .inr (i + 1, F0, f.2.1 :: (f.2.2.1 ++ []), 0, 0) := by
                  unfold mOpd
                  rw [← hc, if_neg (by rw [s41]; decide), if_neg (by rw [s41]; decide), if_neg (by rw [s41]; decide), if_pos ⟨s41, q3⟩, q4]
                rw [eM]
                exact ⟨s', rfl, Or.inr (Or.inl ⟨_, rfl, q5⟩)⟩
              · exact absurd ⟨Or.inl s41, q3, q4⟩ hno
            · by_cases s43 : c = 43
              · have e : dm103 c s = some (wI (wI s 106 7 ((sI s 106 7) + 1)) 106 9 1) := by
                  unfold dm103
                  rw [s43]
                  rfl
                rw [e, h7, ofNat_succ (by omega)]
                have eM : mOpd t ns i F fr = .inr (i + 1, F, [], 0, 0) := by
                  unfold mOpd
                  rw [← hc, if_pos s43]
                rw [eM]
                have g : ch (fun a k => a = 106 ∧ (k = 7 ∨ k = 9)) s (wI (wI s 106 7 (Int32.ofNat (i + 1))) 106 9 1) := ((ch.refl _ s).wI (by omega)).wI (by omega)
                refine ⟨_, rfl, Or.inr (Or.inl ⟨_, rfl, K.of (b := b) (g.mono fun a k z => by unfold AC; omega), ?_, B.of g (fun a k z => by omega), by rw [sI_wI, if_neg (by omega), sI_wI, if_pos ⟨rfl, rfl⟩], (g.i (by omega)).trans h8, by rw [sI_wI, if_pos ⟨rfl, rfl⟩]; rfl, fun z => absurd rfl z⟩)⟩
                show TR _ b (i + 1) (flC F ++ [])
                rw [List.append_nil]
                exact (trM T hb g (fun a k z => by omega)).up (by omega)
              · by_cases s44 : c = 44
                · have e : dm103 c s = bu (dm119 0 s) fun s3 => some s3 := by
                    unfold dm103 dm103_44
                    rw [s44]
                    rfl
                  rw [e]
                  obtain ⟨s', q1, q2⟩ := x119 (c := c) (v := 0) h hF hfr hi hc.symm (Or.inr ⟨s44, rfl⟩)
                  rw [q1]
                  rcases q2 with ⟨q2, q3⟩ | ⟨q2, -⟩ | ⟨q3, q4, -⟩
                  · rw [prim (by rw [s44]; decide) (by rw [s44]; decide) (by rw [s44]; decide) (fun z => by rw [q2] at z; exact absurd z.2 (by decide)), pr_n (by rw [← hc, s44]; unfold prB bW isL isD; decide)]
                    exact ⟨s', rfl, Or.inl ⟨q3, dead.l⟩⟩
                  · rw [s44] at q2
                    exact absurd q2 (by decide)
                  · exact absurd ⟨Or.inr s44, q3, q4⟩ hno
                · by_cases s45 : c = 45
                  · have e : dm103 c s = bu (dm118 s) fun s90 => some s90 := by
                      unfold dm103
                      rw [s45]
                      rfl
                    rw [e]
                    have eM : mOpd t ns i F fr = if (fl F).length = 128 then .inl i else .inr (i + 1, (10, ((fl F).length, plF 10 0, []), [], []) :: F, [], 0, 0) := by
                      unfold mOpd
                      rw [← hc, if_neg s43, if_pos s45]
                    rw [eM]
                    exact (x118 h hi).bx
                  · rw [prim s43 s45 s40 (fun z => s41 z.1), d103_o (by
                      rintro (z | z | z | z | z | z | z | z | z)
                      · exact s34 z
                      · exact s35 z
                      · exact s36 z
                      · exact s39 z
                      · exact s40 z
                      · exact s41 z
                      · exact s43 z
                      · exact s44 z
                      · exact s45 z), d47]
                    simp only [bu_some]
                    unfold dm103_52
                    have num : (isD c ∨ c = 46) → OC b t ns F i (mPrim t ns F (fl F).length i) (bu (dm120 s) fun s3 => some s3) := by
                      intro hd
                      rw [if_pos (b01_t hd)] at tkT
                      refine OC.bx (tok (Y := .inl 0) (hd.elim Or.inl (fun z => Or.inr (Or.inl z))) (x120 (q := (fl F).length) K T hi h7 h8 (by rw [← hc]; exact hd)) (fun z => ?_) (fun z => ?_))
                      · rw [tkT, if_pos (Classical.byContradiction fun y => z y)]
                        exact ⟨_, rfl⟩
                      · rw [tkT, if_neg z]
                    by_cases sD : isD c
                    · rw [b01_t sD, if_neg (by decide)]
                      exact num (Or.inl sD)
                    · rw [b01_f sD, if_pos rfl]
                      by_cases s46 : c = 46
                      · rw [if_pos s46]
                        exact num (Or.inr s46)
                      · rw [if_neg s46, d44]
                        simp only [bu_some]
                        by_cases sW : bW c
                        · rw [b01_t sW, if_neg (by decide)]
                          exact (x123 h hi (by rw [← hc]; exact sW)).bx
                        · rw [b01_f sW, if_pos rfl, nx_eq, pr_n (by
                            rw [← hc]
                            rintro (z | z | z | z | z | z | z)
                            · exact sD z
                            · exact s46 z
                            · exact s34 z
                            · exact s35 z
                            · exact sW z
                            · exact s36 z
                            · exact s39 z)]
                          exact OC.w (Wr.set (b := b) h7 (by omega)) dead.l
/-- what a step of the reference leaves: arguments, letters of a cell -/
def goX (X : Nat ⊕ St) : Prop := match X with
  | .inl _ => True
  | .inr z => (z.2.2.1 = [] → frI z.2.2.2.1 z.2.1) ∧ (z.2.2.2.2 = 1 → ∀ n ∈ z.2.2.1, n.2.2 = [])
set_option maxRecDepth 100000 in
theorem goX.n {e : Nat} {F : List Fw} {n : NN} {fr : Int32} : goX (.inr (e, F, [n], fr, 0)) := ⟨fun z => (by cases z), fun z => absurd z (by decide : ¬ (0 : Nat) = 1)⟩
set_option maxRecDepth 100000 in
theorem goX.c {t : List Int32} {F : List Fw} {m j : Nat} {x : Int32} : goX (mCell t F m x j) := by
  unfold mCell
  split
  · exact trivial
  · exact ⟨fun z => (by cases z), fun _ n hn => by rw [List.mem_singleton.mp hn]⟩
set_option maxRecDepth 100000 in
theorem goX.sh {t : List Int32} {F : List Fw} {m f e : Nat} {x : Int32} {c : Nat ⊕ St} (h : goX c) : goX (mSh t F m x f e c) := by
  unfold mSh
  split
  · exact h
  · exact trivial
set_option maxRecDepth 100000 in
theorem mOpd_x {t : List Int32} {ns : List (List Int32)} {i : Nat} {F : List Fw} {fr : Int32} : goX (mOpd t ns i F fr) := by
  have e0 : ∀ (e : Nat) (F : List Fw), goX (.inr (e, F, [], 0, 0)) := fun e F => ⟨fun _ => Or.inl rfl, fun z => absurd z (by decide : ¬ (0 : Nat) = 1)⟩
  unfold mOpd
  split
  · exact e0 _ _
  · split
    · split
      · exact trivial
      · exact e0 _ _
    · split
      · split
        · exact trivial
        · exact e0 _ _
      · split
        · cases F with
          | nil => exact trivial
          | cons f F0 => exact ⟨fun z => (by cases z), fun z => absurd z (by decide : ¬ (0 : Nat) = 1)⟩
        · split
          · split
            · exact trivial
            · exact goX.n
          · unfold mPrim
            split
            · exact trivial
            · unfold mTok
              split
              · split
                · exact trivial
                · exact goX.n
              · split
                · cases qtA t 34 i with
                  | none => exact trivial
                  | some p => exact goX.n
                · split
                  · split
                    · exact trivial
                    · exact goX.n
                  · split
                    · unfold mPre
                      cases qtA t 39 i with
                      | none => exact trivial
                      | some p =>
                        show goX (if t.getD p.2 0 = 33 then mSh t F (fl F).length (fndF p.1 ns 0) i p.2 (mCell t F (fl F).length (fndF p.1 ns 0) (p.2 + 1)) else .inl p.2)
                        split
                        · exact goX.sh goX.c
                        · exact trivial
                    · split
                      · exact goX.c
                      · unfold mWord
                        split
                        · unfold mDol
                          split
                          · exact trivial
                          · split
                            · exact trivial
                            · exact ⟨fun z => (by cases z), fun _ n hn => by rw [List.mem_singleton.mp hn]⟩
                        · split
                          · exact goX.sh goX.c
                          · split
                            · unfold mCal
                              split
                              · exact trivial
                              · exact ⟨fun _ => Or.inr (Or.inl ⟨rfl, _, _, rfl, rfl, rfl⟩), fun z => absurd z (by decide : ¬ (0 : Nat) = 1)⟩
                            · cases icR t i (wdE t i) with
                              | none => exact goX.n
                              | some p => exact ⟨fun z => (by cases z), fun _ n hn => by rw [List.mem_singleton.mp hn]⟩
set_option maxRecDepth 100000 in
theorem mBeh_x {t : List Int32} {i : Nat} {F : List Fw} {cur : List NN} {lc : Nat} (hcur : cur ≠ []) : goX (mBeh t i F cur lc) := by
  have l0 : ¬ (0 : Nat) = 1 := by decide
  unfold mBeh
  split
  · cases cur with
    | nil => exact trivial
    | cons n r =>
      show goX (if b01 (cOk t (skS t (i + 1))) = 0 then .inl (cB t (skS t (i + 1))) else .inr (cE t (skS t (i + 1)), F, [rgN n (Int32.ofNat (cW t (skS t (i + 1)))) (Int32.ofNat (cK t (skS t (i + 1))).2.1) (Int32.ofNat (cFl t (skS t (i + 1))))], 0, 0))
      split
      · exact trivial
      · exact goX.n
  · split
    · rename_i c1
      have hne := rd_ne (x := 0) F cur hcur
      cases hr : (rdF 0 F cur).1 with
      | nil => exact trivial
      | cons f F0 =>
        refine ⟨fun z => ?_, fun z => absurd z l0⟩
        have z : clC f (rdF 0 F cur).2 = [] := z
        unfold clC at z
        split at z
        · cases z
        · exact absurd z hne
    · split
      · rename_i c1
        rcases rd_in F cur with ⟨z1, z2, -⟩ | ⟨f, F0, z1, z2, z3, -⟩
        · rw [c1.2] at z2
          exact absurd z2 (by decide)
        · rw [z1]
          show goX (if f.2.2.2.length = 29 then .inl i else .inr (i + 1, cmF f (rdF 0 F cur).2 :: F0, [], 2, 0))
          split
          · exact trivial
          · refine ⟨fun _ => Or.inr (Or.inr ⟨rfl, _, _, rfl, z3.symm.trans c1.2, fun z => ?_⟩), fun z => absurd z l0⟩
            have z : f.2.2.2 ++ [hdI (rdF 0 F cur).2] = [] := z
            have := congrArg List.length z
            rw [List.length_append] at this
            exact absurd this (by show ¬ f.2.2.2.length + 1 = 0; omega)
      · split
        · exact ⟨fun z => (by cases z), fun z => absurd z l0⟩
        · split
          · exact ⟨fun _ => Or.inl rfl, fun z => absurd z l0⟩
          · exact trivial
end XX
