/-! steps go on -/
def stOk (t : List Int32) (j : Nat) (b : Bool) (X : Nat ⊕ St) : Prop := match X with
  | .inl p => p ≤ t.length
  | .inr z => j ≤ z.1 ∧ z.1 ≤ t.length ∧ (z.1 = j → b = true ∧ z.2.2.1.isEmpty = false) ∧ (z.2.2.1.isEmpty = false → z.2.2.2.1 = 0) ∧ (z.2.2.1.isEmpty = true → z.2.2.2.2 = 0 ∧ (z.2.2.2.1 = 1 → ∃ f F0, z.2.1 = f :: F0 ∧ f.1 = 7)) ∧ (z.2.2.2.2 = 1 → ∃ n, z.2.2.1 = [n] ∧ n.2.1 0 = 4)
set_option maxRecDepth 100000 in
/-- a new operand of one node -/
theorem stOk.one {t : List Int32} {j e lc : Nat} {b : Bool} {F : List Fw} {n : NN} (h1 : j < e) (h2 : e ≤ t.length) (hl : lc = 1 → n.2.1 0 = 4) : stOk t j b (.inr (e, F, [n], 0, lc)) := ⟨by show j ≤ e; omega, h2, fun q => (by have q : e = j := q; omega), fun _ => rfl, fun q => (by cases q), fun q => ⟨n, rfl, hl q⟩⟩
set_option maxRecDepth 100000 in
theorem stOk.emp {t : List Int32} {j e : Nat} {b : Bool} {F : List Fw} {fr : Int32} (h1 : j < e) (h2 : e ≤ t.length) (hf : ¬ fr = 1) : stOk t j b (.inr (e, F, [], fr, 0)) := ⟨by show j ≤ e; omega, h2, fun q => (by have q : e = j := q; omega), fun q => (by cases q), fun _ => ⟨rfl, fun q => absurd q hf⟩, fun q => (by cases q)⟩
set_option maxRecDepth 100000 in
theorem stOk.cur {t : List Int32} {j e : Nat} {b : Bool} {F : List Fw} {L : List NN} (h1 : j < e) (h2 : e ≤ t.length) (hL : L.isEmpty = false) : stOk t j b (.inr (e, F, L, 0, 0)) := ⟨by show j ≤ e; omega, h2, fun q => (by have q : e = j := q; omega), fun _ => rfl, fun q => (by have q : L.isEmpty = true := q; rw [hL] at q; cases q), fun q => (by cases q)⟩
set_option maxRecDepth 100000 in
theorem mCell_ok {t : List Int32} {F : List Fw} {m j i : Nat} {x : Int32} {b : Bool} (hij : i ≤ j) (hj : j ≤ t.length) : stOk t i b (mCell t F m x j) := by
  unfold mCell
  by_cases g : cOk t j
  · rw [if_neg (fun z => b01_ne.mp z g)]
    obtain ⟨o1, o2, o3, o4, o5⟩ := cOk_b hj g
    exact stOk.one (by omega) o5 (fun _ => rfl)
  · rw [if_pos (b01_ne.mpr g)]
    exact cB_b hj
set_option maxRecDepth 100000 in
theorem mSh_ok {t : List Int32} {F : List Fw} {m f e i : Nat} {x : Int32} {b : Bool} {c : Nat ⊕ St} (hf : f ≤ t.length) (h : stOk t i b c) : stOk t i b (mSh t F m x f e c) := by
  unfold mSh
  by_cases g : 0 ≤ x
  · rw [if_pos g]
    exact h
  · rw [if_neg g]
    exact hf
set_option maxRecDepth 100000 in
theorem qtG_b {t : List Int32} {q : Int32} (h0 : ¬ q = 0) : ∀ (m i : Nat) (u : List Int32) (e : Nat), qtG t q m i = some (u, e) → i < e ∧ e ≤ t.length
  | 0, i, u, e, h => by cases h
  | m + 1, i, u, e, h => by
    rw [qtG] at h
    by_cases c1 : t.length ≤ i
    · rw [if_pos c1] at h; cases h
    · rw [if_neg c1] at h
      by_cases c2 : t.getD i 0 = q
      · rw [if_pos c2] at h
        by_cases c3 : t.getD (i + 1) 0 = q
        · rw [if_pos c3] at h
          cases z : qtG t q m (i + 2) with
          | none => rw [z] at h; cases h
          | some p =>
            rw [z] at h
            have h : some (q :: p.1, p.2) = some (u, e) := h
            cases h
            have := qtG_b h0 m (i + 2) p.1 p.2 z
            omega
        · rw [if_neg c3] at h
          cases h
          omega
      · rw [if_neg c2] at h
        cases z : qtG t q m (i + 1) with
        | none => rw [z] at h; cases h
        | some p =>
          rw [z] at h
          have h : some (t.getD i 0 :: p.1, p.2) = some (u, e) := h
          cases h
          have := qtG_b h0 m (i + 1) p.1 p.2 z
          omega
set_option maxRecDepth 100000 in
theorem mTok_ok {t : List Int32} {ns : List (List Int32)} {F : List Fw} {m i : Nat} {b : Bool} (ho : okT t) (hi : i < t.length) (hp : prB (t.getD i 0)) : stOk t i b (mTok t ns F m i) := by
  unfold mTok
  by_cases c1 : isD (t.getD i 0) ∨ t.getD i 0 = 46
  · rw [if_pos (b01_t c1)]
    have hb := nm_b hi c1
    by_cases g : (lexN t i).1 = 0
    · rw [if_pos g]
      exact hb.2
    · rw [if_neg g]
      exact stOk.one hb.1 hb.2 (fun q => by cases q)
  · rw [if_neg (by rw [b01_f c1]; decide)]
    by_cases c2 : t.getD i 0 = 34
    · rw [if_pos c2]
      cases z : qtA t 34 i with
      | none => exact Nat.le_refl _
      | some p =>
        obtain ⟨u, e⟩ := p
        have := qtG_b (by decide) _ _ _ _ z
        exact stOk.one (by omega) this.2 (fun q => by cases q)
    · rw [if_neg c2]
      by_cases c3 : t.getD i 0 = 35
      · rw [if_pos c3]
        have hb := erG_b (f := i) ho 8 0 (by omega)
        by_cases g : (erG t i 8 0).1 = 0
        · rw [if_pos g]
          exact hb.1
        · rw [if_neg g]
          exact stOk.one (by have := hb.2 g; omega) hb.1 (fun q => by cases q)
      · rw [if_neg c3]
        by_cases c4 : t.getD i 0 = 39
        · rw [if_pos c4]
          unfold mPre
          cases z : qtA t 39 i with
          | none => exact Nat.le_refl _
          | some p =>
            obtain ⟨u, e⟩ := p
            have hb := qtG_b (by decide) _ _ _ _ z
            by_cases g : t.getD e 0 = 33
            · simp only [if_pos g]
              have he : e < t.length := in_of (p := fun x => x = 33) (d := 0) (by decide) g
              exact mSh_ok (by omega) (mCell_ok (by omega) (by omega))
            · simp only [if_neg g]
              exact hb.2
        · rw [if_neg c4]
          by_cases c5 : t.getD i 0 = 36
          · rw [if_pos c5]
            exact mCell_ok (Nat.le_refl _) (by omega)
          · rw [if_neg c5]
            have hw : gW (t.getD i 0) := by
              rcases hp with q | q | q | q | q | q | q
              · exact absurd (Or.inl q) c1
              · exact absurd (Or.inr q) c1
              · exact absurd q c2
              · exact absurd q c3
              · rcases q with q | q
                · exact Or.inl q
                · exact Or.inr (Or.inr (Or.inl q))
              · exact absurd q c5
              · exact absurd q c4
            obtain ⟨w1, w2, w3⟩ := wd_b (t := t) (i := i) (by omega)
            have w0 : i < wdE t i := by
              obtain ⟨g1, g2⟩ := cnt_y gW0 hw
              unfold wdE
              omega
            unfold mWord
            by_cases d1 : t.getD (wdE t i) 0 = 36
            · rw [if_pos d1]
              unfold mDol
              have hd := dlR_b w2
              by_cases g : lo t i (wdE t i) < wdE t i - i ∨ 3 < lo t i (wdE t i) ∨ 16384 < cv4 t (lo t i (wdE t i)) i
              · rw [if_pos g]
                exact w2
              · rw [if_neg g]
                by_cases g2 : rowB t (wdE t i + dlR t (wdE t i))
                · rw [if_neg (fun z => b01_ne.mp z g2)]
                  obtain ⟨x1, x2, x3⟩ := rw_pos g2
                  obtain ⟨v1, v2, v3, v4⟩ := rwG_b (t := t) 300 (wdE t i + dlR t (wdE t i)) 0 (by omega) (by omega)
                  exact stOk.one (by omega) v4 (fun _ => rfl)
                · rw [if_pos (b01_ne.mpr g2)]
                  exact hd.1
            · rw [if_neg d1]
              by_cases d2 : t.getD (wdE t i) 0 = 33
              · rw [if_pos d2]
                have he : wdE t i < t.length := in_of (p := fun x => x = 33) (d := 0) (by decide) d2
                exact mSh_ok (by omega) (mCell_ok (by omega) (by omega))
              · rw [if_neg d2]
                by_cases d3 : t.getD (wdE t i) 0 = 40
                · rw [if_pos d3]
                  have he : wdE t i < t.length := in_of (p := fun x => x = 40) (d := 0) (by decide) d3
                  unfold mCal
                  by_cases g : nO F = 32
                  · rw [if_pos g]
                    exact w2
                  · rw [if_neg g]
                    exact ⟨by show i ≤ wdE t i + 1; omega, by show wdE t i + 1 ≤ t.length; omega, fun q => by have q : wdE t i + 1 = i := q; omega, fun q => (by cases q), fun _ => ⟨rfl, fun _ => ⟨_, _, rfl, rfl⟩⟩, fun q => (by cases q)⟩
                · rw [if_neg d3]
                  cases z : icR t i (wdE t i) with
                  | some p =>
                    obtain ⟨w, c⟩ := p
                    exact stOk.one w0 w2 (fun _ => rfl)
                  | none =>
                    show stOk t i b (mNam t F m i (wdE t i))
                    unfold mNam
                    exact stOk.one w0 w2 (fun q => by cases q)
set_option maxRecDepth 100000 in
theorem mOpd_ok {t : List Int32} {ns : List (List Int32)} {F : List Fw} {i : Nat} {fr : Int32} (ho : okT t) (hi : i < t.length) : stOk t i true (mOpd t ns i F fr) := by
  unfold mOpd
  by_cases c1 : t.getD i 0 = 43
  · rw [if_pos c1]
    exact stOk.emp (by omega) hi (by decide)
  · rw [if_neg c1]
    by_cases c2 : t.getD i 0 = 45
    · rw [if_pos c2]
      by_cases g : (fl F).length = 128
      · rw [if_pos g]
        exact Nat.le_of_lt hi
      · rw [if_neg g]
        exact stOk.emp (by omega) hi (by decide)
    · rw [if_neg c2]
      by_cases c3 : t.getD i 0 = 40
      · rw [if_pos c3]
        by_cases g : nO F = 32
        · rw [if_pos g]
          exact Nat.le_of_lt hi
        · rw [if_neg g]
          exact stOk.emp (by omega) hi (by decide)
      · rw [if_neg c3]
        by_cases c4 : t.getD i 0 = 41 ∧ fr = 1
        · rw [if_pos c4]
          cases F with
          | nil => exact Nat.le_of_lt hi
          | cons f F0 => exact stOk.cur (by omega) hi rfl
        · rw [if_neg c4]
          by_cases c5 : (t.getD i 0 = 41 ∨ t.getD i 0 = 44) ∧ ¬ fr ≤ 0
          · rw [if_pos c5]
            by_cases g : (fl F).length = 128
            · rw [if_pos g]
              exact Nat.le_of_lt hi
            · rw [if_neg g]
              exact ⟨Nat.le_refl _, Nat.le_of_lt hi, fun _ => ⟨rfl, rfl⟩, fun _ => rfl, fun q => (by cases q), fun q => (by cases q)⟩
          · rw [if_neg c5]
            unfold mPrim
            by_cases g : b01 (prB (t.getD i 0)) = 0 ∨ (fl F).length = 128
            · rw [if_pos g]
              exact Nat.le_of_lt hi
            · rw [if_neg g]
              exact mTok_ok ho hi (Classical.byContradiction fun q => g (Or.inl (b01_ne.mpr q)))
set_option maxRecDepth 100000 in
theorem mBeh_ok {t : List Int32} {F : List Fw} {i lc : Nat} {cur : List NN} (hi : i < t.length) (hcur : cur ≠ []) : stOk t i false (mBeh t i F cur lc) := by
  unfold mBeh
  by_cases c1 : t.getD i 0 = 58 ∧ lc = 1
  · rw [if_pos c1]
    cases cur with
    | nil => exact absurd rfl hcur
    | cons n L =>
      have hb := sk_b (t := t) (i := i + 1) (by omega)
      by_cases g : cOk t (skS t (i + 1))
      · simp only [if_neg (fun z => b01_ne.mp z g)]
        obtain ⟨o1, o2, o3, o4, o5⟩ := cOk_b hb.2 g
        exact stOk.one (by omega) o5 (fun q => by cases q)
      · simp only [if_pos (b01_ne.mpr g)]
        exact cB_b hb.2
  · rw [if_neg c1]
    by_cases c2 : t.getD i 0 = 41 ∧ ¬ nO F = 0
    · rw [if_pos c2]
      cases hq : (rdF 0 F cur).1 with
      | nil => exact Nat.le_of_lt hi
      | cons f F0 =>
        have hne : (rdF 0 F cur).2 ≠ [] := by
          have key : ∀ (G : List Fw) (L : List NN), L ≠ [] → (rdF 0 G L).2 ≠ [] := by
            intro G
            induction G with
            | nil => intro L h; exact h
            | cons g G ih =>
              intro L h
              by_cases z : g.1 = 100 ∨ g.1 = 7 ∨ rkM g.1 < 0
              · have : rdF 0 (g :: G) L = (g :: G, L) := if_pos z
                rw [this]
                exact h
              · have : rdF 0 (g :: G) L = rdF 0 G (upN g :: (g.2.2.1 ++ L)) := if_neg z
                rw [this]
                exact ih _ (by simp)
          exact key F cur hcur
        have hn2 : (clC f (rdF 0 F cur).2).isEmpty = false := by
          unfold clC
          by_cases z : f.1 = 7
          · rw [if_pos z]
            rfl
          · rw [if_neg z]
            cases hz : (rdF 0 F cur).2 with
            | nil => exact absurd hz hne
            | cons a b => rfl
        exact stOk.cur (by omega) hi hn2
    · rw [if_neg c2]
      by_cases c3 : t.getD i 0 = 44 ∧ inM F = 7
      · rw [if_pos c3]
        cases hq : (rdF 0 F cur).1 with
        | nil => exact Nat.le_of_lt hi
        | cons f F0 =>
          by_cases g : f.2.2.2.length = 29
          · simp only [if_pos g]
            exact Nat.le_of_lt hi
          · simp only [if_neg g]
            exact stOk.emp (by omega) hi (by decide)
      · rw [if_neg c3]
        by_cases c4 : t.getD i 0 = 37 ∧ (fl F ++ cur).length < 128
        · rw [if_pos c4]
          exact stOk.cur (by omega) hi rfl
        · rw [if_neg c4]
          by_cases c5 : ¬ (opk (t.getD i 0) (t.getD (i + 1) 0)).1 = 0 ∧ (fl F ++ cur).length < 128
          · rw [if_pos c5]
            have hb : 1 ≤ (opk (t.getD i 0) (t.getD (i + 1) 0)).2 ∧ i + (opk (t.getD i 0) (t.getD (i + 1) 0)).2 ≤ t.length := by
              have hd : ∀ x : Int32, ¬ x = 0 → t.getD (i + 1) 0 = x → i + 1 < t.length := by
                intro x hx hq
                by_cases z : i + 1 < t.length
                · exact z
                · rw [getD_out (by omega)] at hq
                  exact absurd hq.symm hx
              have h5 := c5.1
              have e62 := hd 62 (by decide)
              have e61 := hd 61 (by decide)
              clear c5 c4 c3 c2 c1 hd
              revert h5
              unfold opk
              repeat' split
              all_goals
                intro h5
                first
                  | (exact ⟨Nat.le_refl _, hi⟩)
                  | (rename_i z; have := e62 z; exact ⟨by decide, by omega⟩)
                  | (rename_i z; have := e61 z; exact ⟨by decide, by omega⟩)
                  | exact absurd rfl h5
            exact stOk.emp (by omega) hb.2 (by decide)
          · rw [if_neg c5]
            exact Nat.le_of_lt hi
