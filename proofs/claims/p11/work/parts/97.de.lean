/-! every step keeps the nodes right -/
def gdX (ns : List (List Int32)) (X : Nat ⊕ St) : Prop := match X with
  | .inl _ => True
  | .inr z => MI ns z.2.1 z.2.2.1
set_option maxRecDepth 100000 in
theorem gdX.one {ns : List (List Int32)} {e lc : Nat} {F : List Fw} {n : NN} {fr : Int32} (hF : ∀ f ∈ F, gdF ns f) (hn : gdN ns n) : gdX ns (.inr (e, F, [n], fr, lc)) := ⟨hF, fun q hq => by rw [List.mem_singleton.mp hq]; exact hn⟩
set_option maxRecDepth 100000 in
theorem gd_leaf {ns : List (List Int32)} {m : Nat} {l : List Int32} {kd : Int32} (hk : 0 ≤ kd.toInt ∧ kd.toInt ≤ 10) (hn : ¬ (kd = 9 ∨ kd = 10)) (h45 : ¬ (kd = 4 ∨ kd = 5)) (hl : l.length ≤ 256) (ho : okT l) : gdN ns (m, plF kd 0, l) := gd_pl (kd := kd) rfl rfl rfl h45 (ar_0 (kd := kd) rfl rfl hk hn) hl ho
set_option maxRecDepth 100000 in
theorem gd_val {ns : List (List Int32)} {m : Nat} {kd v : Int32} (hk : 0 ≤ kd.toInt ∧ kd.toInt ≤ 10) (hn : ¬ (kd = 9 ∨ kd = 10)) (h45 : ¬ (kd = 4 ∨ kd = 5)) : gdN ns (m, setN (plF kd 0) 8 v, []) := gd_pl (kd := kd) rfl rfl rfl h45 (ar_0 (kd := kd) rfl rfl hk hn) (Nat.zero_le _) (fun y hy => (by cases hy))
set_option maxRecDepth 100000 in
theorem fnd_r {u : List Int32} {ns : List (List Int32)} (hn : nsOk ns) : -1 ≤ (fndF u ns 0).toInt ∧ (fndF u ns 0).toInt ≤ 7 ∧ (fndF u ns 0).toInt < ns.length := by
  have h8 := hn.1
  rcases fnd_or u ns 0 with q | ⟨k, k1, k2, q⟩
  · rw [q]
    have : (-1 : Int32).toInt = -1 := by decide
    omega
  · rw [q, iOfNat (by omega)]
    omega
set_option maxRecDepth 100000 in
theorem m1_r {ns : List (List Int32)} : -1 ≤ (-1 : Int32).toInt ∧ (-1 : Int32).toInt ≤ 7 ∧ (-1 : Int32).toInt < (ns.length : Int) := by
  have : (-1 : Int32).toInt = -1 := by decide
  omega
set_option maxRecDepth 100000 in
theorem mCell_gd {t : List Int32} {ns : List (List Int32)} {F : List Fw} {m j : Nat} {x : Int32} (hF : ∀ f ∈ F, gdF ns f) (hx : -1 ≤ x.toInt ∧ x.toInt ≤ 7 ∧ x.toInt < ns.length) (hj : j ≤ t.length) : gdX ns (mCell t F m x j) := by
  unfold mCell
  by_cases g : cOk t j
  · rw [if_neg (fun z => b01_ne.mp z g)]
    obtain ⟨o1, o2, o3, o4, o5⟩ := cOk_b hj g
    exact gdX.one hF (gd_cl hx o1 o2 o3)
  · rw [if_pos (b01_ne.mpr g)]
    trivial
set_option maxRecDepth 100000 in
theorem mSh_gd {t : List Int32} {ns : List (List Int32)} {F : List Fw} {m f e : Nat} {x : Int32} {c : Nat ⊕ St} (h : gdX ns c) : gdX ns (mSh t F m x f e c) := by
  unfold mSh
  split
  · exact h
  · trivial
set_option maxRecDepth 100000 in
theorem dgG_b {t : List Int32} : ∀ (m p w v : Nat), dgG t m p w = some v → w ≤ v
  | 0, p, w, v, h => by
    cases h
    exact Nat.le_refl _
  | m + 1, p, w, v, h => by
    rw [dgG] at h
    split at h
    · cases h
    · have := dgG_b m _ _ _ h
      omega
set_option maxRecDepth 100000 in
theorem icR_b {t : List Int32} {i e w c : Nat} (h : icR t i e = some (w, c)) : (1 ≤ w ∧ w ≤ 1048576) ∧ 1 ≤ c ∧ c ≤ 16384 := by
  unfold icR at h
  by_cases g : lo t i e < 1 ∨ 3 < lo t i e ∨ e - i - lo t i e < 1 ∨ 7 < e - i - lo t i e ∨ t.getD (i + lo t i e) 0 = 48
  · rw [if_pos g] at h; cases h
  · rw [if_neg g] at h
    cases z : dgG t (e - i - lo t i e) (i + lo t i e) 0 with
    | none => rw [z] at h; cases h
    | some v =>
      rw [z] at h
      have h : (if 1048576 < v ∨ 16384 < cv4 t (lo t i e) i then none else some (v, cv4 t (lo t i e) i)) = some (w, c) := h
      by_cases g2 : 1048576 < v ∨ 16384 < cv4 t (lo t i e) i
      · rw [if_pos g2] at h; cases h
      · rw [if_neg g2] at h
        cases h
        have hL : ∀ q, q < lo t i e → isL (t.getD (i + q) 0) := fun q hq => lo_is (e := e) hq
        have hcb := cv4_b hL
        have h1 : 1 ≤ lo t i e := by omega
        have h9 : e - i - lo t i e = (e - i - lo t i e - 1) + 1 := by omega
        rw [h9, dgG] at z
        have n48 : ¬ t.getD (i + lo t i e) 0 = 48 := fun q => g (Or.inr (Or.inr (Or.inr (Or.inr q))))
        by_cases dd : isD (t.getD (i + lo t i e) 0)
        · rw [if_neg (fun q => b01_ne.mp q dd)] at z
          have := dgG_b _ _ _ _ z
          have d1 : 48 ≤ (t.getD (i + lo t i e) 0).toInt ∧ (t.getD (i + lo t i e) 0).toInt ≤ 57 := dd
          have d2 : ¬ (t.getD (i + lo t i e) 0).toInt = 48 := fun q => n48 (iEq.mpr q)
          have : 1 ≤ dv (t.getD (i + lo t i e) 0) := by unfold dv; omega
          refine ⟨⟨by omega, by omega⟩, hcb.2 (by omega), by omega⟩
        · rw [if_pos (b01_ne.mpr dd)] at z
          cases z
set_option maxRecDepth 100000 in
theorem mTok_gd {t : List Int32} {ns : List (List Int32)} {F : List Fw} {m i : Nat} (hn : nsOk ns) (hl : t.length ≤ 256) (ho : okT t) (hF : ∀ f ∈ F, gdF ns f) (hi : i < t.length) (hp : prB (t.getD i 0)) : gdX ns (mTok t ns F m i) := by
  have slok : ∀ a b, ((sl t a b).map gr).length ≤ 256 ∧ okT ((sl t a b).map gr) := fun a b => by
    refine ⟨?_, okT_gr (okT_sl ho)⟩
    rw [List.length_map]
    unfold sl
    rw [List.length_take, List.length_drop]
    omega
  unfold mTok
  by_cases c1 : isD (t.getD i 0) ∨ t.getD i 0 = 46
  · rw [if_pos (b01_t c1)]
    split
    · trivial
    · exact gdX.one hF (gd_leaf (by decide) (by decide) (by decide) (slok _ _).1 (slok _ _).2)
  · rw [if_neg (by rw [b01_f c1]; decide)]
    by_cases c2 : t.getD i 0 = 34
    · rw [if_pos c2]
      cases z : qtA t 34 i with
      | none => trivial
      | some p =>
        obtain ⟨u, e⟩ := p
        have h1 := okT_qt ho _ _ _ _ z
        have h2 := qtG_b (by decide) _ _ _ _ z
        exact gdX.one hF (gd_leaf (by decide) (by decide) (by decide) (by omega) h1.1)
    · rw [if_neg c2]
      by_cases c3 : t.getD i 0 = 35
      · rw [if_pos c3]
        split
        · trivial
        · exact gdX.one hF (gd_val (by decide) (by decide) (by decide))
      · rw [if_neg c3]
        by_cases c4 : t.getD i 0 = 39
        · rw [if_pos c4]
          unfold mPre
          cases z : qtA t 39 i with
          | none => trivial
          | some p =>
            obtain ⟨u, e⟩ := p
            by_cases g : t.getD e 0 = 33
            · simp only [if_pos g]
              have he : e < t.length := in_of (p := fun x => x = 33) (d := 0) (by decide) g
              exact mSh_gd (mCell_gd hF (fnd_r hn) (by omega))
            · simp only [if_neg g]
              trivial
        · rw [if_neg c4]
          by_cases c5 : t.getD i 0 = 36
          · rw [if_pos c5]
            exact mCell_gd hF m1_r (by omega)
          · rw [if_neg c5]
            have hw : gW (t.getD i 0) := by
              rcases hp with q | q | q | q | q | q | q
              · exact absurd (Or.inl q) c1
              · exact absurd (Or.inr q) c1
              · exact absurd q c2
              · exact absurd q c3
              · rcases q with q | q
                · exact Or.inl q
                · exact Or.inr (Or.inr (Or.inl q))
              · exact absurd q c5
              · exact absurd q c4
            obtain ⟨w1, w2, w3⟩ := wd_b (t := t) (i := i) (by omega)
            have w0 : i < wdE t i := by
              obtain ⟨g1, g2⟩ := cnt_y gW0 hw
              unfold wdE
              omega
            unfold mWord
            by_cases d1 : t.getD (wdE t i) 0 = 36
            · rw [if_pos d1]
              unfold mDol
              by_cases g : lo t i (wdE t i) < wdE t i - i ∨ 3 < lo t i (wdE t i) ∨ 16384 < cv4 t (lo t i (wdE t i)) i
              · rw [if_pos g]
                trivial
              · rw [if_neg g]
                have hd := dlR_b w2
                by_cases g2 : rowB t (wdE t i + dlR t (wdE t i))
                · rw [if_neg (fun z => b01_ne.mp z g2)]
                  obtain ⟨x1, x2, x3⟩ := rw_pos g2
                  obtain ⟨v1, v2, v3, v4⟩ := rwG_b (t := t) 300 (wdE t i + dlR t (wdE t i)) 0 (by omega) (by omega)
                  have hL : ∀ q, q < lo t i (wdE t i) → isL (t.getD (i + q) 0) := fun q hq => lo_is (e := wdE t i) hq
                  have hcb := cv4_b hL
                  exact gdX.one hF (gd_cl m1_r ⟨x2, v2⟩ ⟨hcb.2 (by omega), by omega⟩ (by omega))
                · rw [if_pos (b01_ne.mpr g2)]
                  trivial
            · rw [if_neg d1]
              by_cases d2 : t.getD (wdE t i) 0 = 33
              · rw [if_pos d2]
                have he : wdE t i < t.length := in_of (p := fun x => x = 33) (d := 0) (by decide) d2
                exact mSh_gd (mCell_gd hF (fnd_r hn) (by omega))
              · rw [if_neg d2]
                by_cases d3 : t.getD (wdE t i) 0 = 40
                · rw [if_pos d3]
                  unfold mCal
                  by_cases g : nO F = 32
                  · rw [if_pos g]
                    trivial
                  · rw [if_neg g]
                    refine ⟨fun f hf => ?_, fun q hq => (by cases hq)⟩
                    rcases List.mem_cons.mp hf with q | q
                    · subst q
                      exact Or.inr ⟨Or.inl rfl, fun w hw => rfl, fun _ => rfl, (slok _ _).1, (slok _ _).2, fun z => absurd z (by decide : ¬ (7 : Int32) = 10), fun z => by unfold isB at z; exact absurd z (by decide : ¬ (11 ≤ (7 : Int32).toInt ∧ (7 : Int32).toInt ≤ 22)), Nat.zero_le _, fun q hq => (by cases hq)⟩
                    · exact hF f q
                · rw [if_neg d3]
                  cases z : icR t i (wdE t i) with
                  | some p =>
                    obtain ⟨w, c⟩ := p
                    have := icR_b z
                    exact gdX.one hF (gd_cl (f := 0) m1_r this.1 this.2 (by decide))
                  | none =>
                    show gdX ns (mNam t F m i (wdE t i))
                    unfold mNam
                    refine gdX.one hF ?_
                    split
                    · split
                      · exact gd_leaf (by decide) (by decide) (by decide) (slok _ _).1 (slok _ _).2
                      · exact gd_val (by decide) (by decide) (by decide)
                    · exact gd_val (by decide) (by decide) (by decide)
set_option maxRecDepth 100000 in
theorem mOpd_gd {t : List Int32} {ns : List (List Int32)} {F : List Fw} {i : Nat} {fr : Int32} (hn : nsOk ns) (hl : t.length ≤ 256) (ho : okT t) (hF : ∀ f ∈ F, gdF ns f) (hi : i < t.length) (hfr : fr = 1 → ∃ f F0, F = f :: F0 ∧ f.1 = 7) : gdX ns (mOpd t ns i F fr) := by
  unfold mOpd
  by_cases c1 : t.getD i 0 = 43
  · rw [if_pos c1]
    exact ⟨hF, fun q hq => (by cases hq)⟩
  · rw [if_neg c1]
    by_cases c2 : t.getD i 0 = 45
    · rw [if_pos c2]
      split
      · trivial
      · refine ⟨fun f hf => ?_, fun q hq => (by cases hq)⟩
        rcases List.mem_cons.mp hf with q | q
        · subst q
          exact Or.inr ⟨Or.inr (Or.inl rfl), fun w hw => rfl, fun z => absurd z (by decide : ¬ (10 : Int32) = 7), Nat.zero_le _, fun y hy => (by cases hy), fun _ => rfl, fun z => by unfold isB at z; exact absurd z (by decide : ¬ (11 ≤ (10 : Int32).toInt ∧ (10 : Int32).toInt ≤ 22)), Nat.zero_le _, fun q hq => (by cases hq)⟩
        · exact hF f q
    · rw [if_neg c2]
      by_cases c3 : t.getD i 0 = 40
      · rw [if_pos c3]
        split
        · trivial
        · refine ⟨fun f hf => ?_, fun q hq => (by cases hq)⟩
          rcases List.mem_cons.mp hf with q | q
          · subst q
            exact Or.inl rfl
          · exact hF f q
      · rw [if_neg c3]
        by_cases c4 : t.getD i 0 = 41 ∧ fr = 1
        · rw [if_pos c4]
          obtain ⟨f, F0, rfl, f7⟩ := hfr c4.2
          have hf := (hF f List.mem_cons_self).resolve_left (by rw [f7]; decide)
          obtain ⟨a1, a2, a3, a4, a5, a6, a7, a8, a9⟩ := hf
          refine ⟨fun q hq => hF q (List.mem_cons_of_mem _ hq), fun q hq => ?_⟩
          rcases List.mem_cons.mp hq with z | z
          · rw [z]
            have e0 : f.2.1.2.1 0 = 7 := by
              rw [a2 0 (by decide), f7]
              rfl
            have e1 := a3 f7
            have e2 : f.2.1.2.1 2 = -1 := a2 2 (by decide)
            have e7 : f.2.1.2.1 7 = 0 := a2 7 (by decide)
            refine gd_pl (kd := 7) e0 e2 e7 (by decide) ⟨by rw [e0]; decide, fun y => absurd (by rw [e0] at y; exact y) (by decide : ¬ ((7 : Int32) = 9 ∨ (7 : Int32) = 10)), fun y => by rw [e0] at y; exact absurd y (by decide), fun y => absurd (Or.inl e0) y, by rw [e1, iOfNat (by omega)]; omega, by rw [e1, iOfNat (by omega)]; omega⟩ a4 a5
          · rw [List.append_nil] at z
            exact a9 q z
        · rw [if_neg c4]
          by_cases c5 : (t.getD i 0 = 41 ∨ t.getD i 0 = 44) ∧ ¬ fr ≤ 0
          · rw [if_pos c5]
            split
            · trivial
            · exact gdX.one hF (gd_leaf (by decide) (by decide) (by decide) (Nat.zero_le _) (fun y hy => (by cases hy)))
          · rw [if_neg c5]
            unfold mPrim
            by_cases g : b01 (prB (t.getD i 0)) = 0 ∨ (fl F).length = 128
            · rw [if_pos g]
              trivial
            · rw [if_neg g]
              exact mTok_gd hn hl ho hF hi (Classical.byContradiction fun q => g (Or.inl (b01_ne.mpr q)))
set_option maxRecDepth 100000 in
theorem mBeh_gd {t : List Int32} {ns : List (List Int32)} {F : List Fw} {i lc : Nat} {cur : List NN} (h : MI ns F cur) (hi : i < t.length) (hlc : lc = 1 → ∃ n, cur = [n] ∧ n.2.1 0 = 4) : gdX ns (mBeh t i F cur lc) := by
  unfold mBeh
  by_cases c1 : t.getD i 0 = 58 ∧ lc = 1
  · rw [if_pos c1]
    obtain ⟨n, rfl, h4⟩ := hlc c1.2
    have hb := sk_b (t := t) (i := i + 1) (by omega)
    by_cases g : cOk t (skS t (i + 1))
    · simp only [if_neg (fun z => b01_ne.mp z g)]
      obtain ⟨o1, o2, o3, o4, o5⟩ := cOk_b hb.2 g
      exact gdX.one h.1 (gd_rg (h.2 n List.mem_cons_self) h4 o1 o2 o3)
    · simp only [if_pos (b01_ne.mpr g)]
      trivial
  · rw [if_neg c1]
    have hr0 := gd_rd (x := 0) F cur h
    by_cases c2 : t.getD i 0 = 41 ∧ ¬ nO F = 0
    · rw [if_pos c2]
      cases hq : (rdF 0 F cur).1 with
      | nil => trivial
      | cons f F0 =>
        rw [hq] at hr0
        refine ⟨fun q z => hr0.1 q (List.mem_cons_of_mem _ z), fun q z => ?_⟩
        have z : q ∈ clC f (rdF 0 F cur).2 := z
        unfold clC at z
        by_cases f7 : f.1 = 7
        · rw [if_pos f7] at z
          have hf := hr0.1 f List.mem_cons_self
          have n100 : f.1 ≠ 100 := by rw [f7]; decide
          rcases List.mem_cons.mp z with y | y
          · rw [y]
            exact gd_up hf n100
          · rcases List.mem_append.mp y with y | y
            · exact (hf.resolve_left n100).2.2.2.2.2.2.2.2 q y
            · exact hr0.2 q y
        · rw [if_neg f7] at z
          exact hr0.2 q z
    · rw [if_neg c2]
      by_cases c3 : t.getD i 0 = 44 ∧ inM F = 7
      · rw [if_pos c3]
        rcases rd_in F cur with ⟨y1, y2, -⟩ | ⟨f, F0, y1, y2, y3, -, -⟩
        · rw [c3.2] at y2
          exact absurd y2 (by decide)
        · rw [y1] at hr0
          rw [y1]
          have f7 : f.1 = 7 := by rw [← y3]; exact c3.2
          by_cases g : f.2.2.2.length = 29
          · simp only [if_pos g]
            trivial
          · simp only [if_neg g]
            refine ⟨fun q z => ?_, fun q z => (by cases z)⟩
            rcases List.mem_cons.mp z with y | y
            · rw [y]
              have hf := hr0.1 f List.mem_cons_self
              have n100 : f.1 ≠ 100 := by rw [f7]; decide
              obtain ⟨a1, a2, a3, a4, a5, a6, a7, a8, a9⟩ := hf.resolve_left n100
              refine Or.inr ⟨a1, fun w hw => ?_, fun _ => ?_, a4, a5, fun w => ?_, fun w => ?_, ?_, fun w hw => ?_⟩
              · show setN f.2.1.2.1 1 (Int32.ofNat (f.2.2.2.length + 1)) w = plF f.1 0 w
                rw [show setN f.2.1.2.1 1 (Int32.ofNat (f.2.2.2.length + 1)) w = f.2.1.2.1 w from if_neg hw]
                exact a2 w hw
              · show setN f.2.1.2.1 1 (Int32.ofNat (f.2.2.2.length + 1)) 1 = Int32.ofNat (f.2.2.2 ++ [hdI (rdF 0 F cur).2]).length
                rw [List.length_append]
                rfl
              · have w : f.1 = 10 := w
                rw [f7] at w
                exact absurd w (by decide)
              · have w : isB f.1 := w
                rw [f7] at w
                unfold isB at w
                exact absurd w (by decide)
              · show (f.2.2.2 ++ [hdI (rdF 0 F cur).2]).length ≤ 29
                rw [List.length_append]
                show f.2.2.2.length + 1 ≤ 29
                omega
              · have hw : w ∈ f.2.2.1 ++ (rdF 0 F cur).2 := hw
                rcases List.mem_append.mp hw with v | v
                · exact a9 w v
                · exact hr0.2 w v
            · exact hr0.1 q (List.mem_cons_of_mem _ y)
      · rw [if_neg c3]
        by_cases c4 : t.getD i 0 = 37 ∧ (fl F ++ cur).length < 128
        · rw [if_pos c4]
          refine ⟨h.1, fun q z => ?_⟩
          rcases List.mem_cons.mp z with y | y
          · rw [y]
            exact gd_pl (kd := 9) rfl rfl rfl (by decide) ⟨by decide, fun _ => rfl, fun w => absurd w (by decide), fun w => absurd (Or.inr (Or.inl rfl)) w, by decide, by decide⟩ (Nat.zero_le _) (fun y hy => (by cases hy))
          · exact h.2 q y
        · rw [if_neg c4]
          by_cases c5 : ¬ (opk (t.getD i 0) (t.getD (i + 1) 0)).1 = 0 ∧ (fl F ++ cur).length < 128
          · rw [if_pos c5]
            rcases opk_in (t.getD i 0) (t.getD (i + 1) 0) with y | y
            · exact absurd (by rw [y]) c5.1
            · have o := opX_f _ y
              generalize opk (t.getD i 0) (t.getD (i + 1) 0) = p at *
              have hr1 := gd_rd (x := rkM (Int32.ofNat p.1)) F cur h
              refine ⟨fun q z => ?_, fun q z => (by cases z)⟩
              rcases List.mem_cons.mp z with v | v
              · rw [v]
                have hB : isB (Int32.ofNat p.1) := o.2.2.2.1
                refine Or.inr ⟨Or.inr (Or.inr hB), fun w hw => rfl, fun w => ?_, Nat.zero_le _, fun y hy => (by cases hy), fun w => ?_, fun _ => rfl, by show 1 ≤ 29; decide, hr1.2⟩
                · have w : Int32.ofNat p.1 = 7 := w
                  rw [w] at hB
                  unfold isB at hB
                  exact absurd hB (by decide)
                · have w : Int32.ofNat p.1 = 10 := w
                  rw [w] at hB
                  unfold isB at hB
                  exact absurd hB (by decide)
              · exact hr1.1 q v
          · rw [if_neg c5]
            trivial
