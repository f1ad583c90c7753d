/-! operands, in the reference -/
set_option maxRecDepth 100000 in
noncomputable def mWord (t : List Int32) (ns : List (List Int32)) (F : List Fw) (m i : Nat) : Nat ⊕ St := if t.getD (wdE t i) 0 = 36 then mDol t F m i (wdE t i) else if t.getD (wdE t i) 0 = 33 then mSh t F m (fndF (sl t i (wdE t i)) ns 0) i (wdE t i) (mCell t F m (fndF (sl t i (wdE t i)) ns 0) (wdE t i + 1)) else if t.getD (wdE t i) 0 = 40 then mCal t F m i (wdE t i) else match icR t i (wdE t i) with
  | some (w, c) => .inr (wdE t i, F, [(m, clD (-1) (Int32.ofNat w) (Int32.ofNat c) 0, [])], 0, 1)
  | none => mNam t F m i (wdE t i)
set_option maxRecDepth 100000 in
theorem d210 {s : aS} {r : Nat → Int32} {t : List Int32} {ns : List (List Int32)} {e i m : Nat} {F : List Fw} (h : PR s r t e F m) (hS : SX s r ns) (hei : e ≤ i) (hi : i < t.length) : OUT s r (dm210 (wP s r i)) (mWord t ns F m i) := by
  have hl := h.1.1
  obtain ⟨w1, w2, w3⟩ := wd_b (t := t) (i := i) (by omega)
  obtain ⟨n', q⟩ := d210l (x := Int32.ofNat i) h.1 t.length i 5000 (by omega) (by omega) (by omega)
  unfold dm210
  rw [wP_at, q]
  unfold mWord
  generalize wdE t i = e2 at *
  rw [dm210_3]
  simp only [wP_at, rch h.1 (show e2 < 100000 by omega), bu_some, d211]
  rw [if_pos (b01_ne.mpr w3)]
  by_cases c1 : t.getD e2 0 = 36
  · rw [if_pos c1, if_pos c1]
    exact d210d h hei w1 w2
  · rw [if_neg c1, if_neg c1]
    by_cases c2 : t.getD e2 0 = 33
    · rw [if_pos c2, if_pos c2]
      have he2 : e2 < t.length := in_of (p := fun x => x = 33) (d := 0) (by decide) c2
      have es : Int32.ofNat e2 - Int32.ofNat i = Int32.ofNat (sl t i e2).length := by
        rw [sl_len w1 w2, iEq, iSub (by rw [iOfNat (by omega), iOfNat (by omega)]; omega) (by rw [iOfNat (by omega), iOfNat (by omega)]; omega), iOfNat (by omega), iOfNat (by omega), iOfNat (by omega)]
        omega
      have hsl := sl_len w1 w2
      have hRW : RW (wP s r e2) 122 i (sl t i e2) := ⟨by show i + (sl t i e2).length ≤ (sT s 122).2; rw [hsl, hS.2.2]; omega, fun j hj => by
        rw [tx_at h.1 (by omega), sl_get hj w2]⟩
      rw [es, d177 (hS.sm e2) hS.2.1 hRW (by omega)]
      simp only [bu_some]
      refine (d206 (f := i) (x := fndF (sl t i e2) ns 0) h (by omega) he2).c (ch.refl _ s) (fun _ _ => rfl) ?_
      cases dm206 (fndF (sl t i e2) ns 0) (Int32.ofNat i) (wP s r e2) <;> rfl
    · rw [if_neg c2, if_neg c2]
      by_cases c3 : t.getD e2 0 = 40
      · rw [if_pos c3, if_pos c3]
        exact d210c h hei w1 w2
      · rw [if_neg c3, if_neg c3]
        rcases d214 (k := e2) h.1 w1 w2 with ⟨a1, w, c, f, a2⟩ | ⟨w, c, a1, a2⟩
        · rw [a1, a2]
          simp only [bv_some]
          rw [if_pos trivial]
          have hP : PR s (cR r w c f) t e F m := h.of (ch.refl (fun _ _ => False) s) (fun a k z => z.elim) (fun k _ k1 k2 k3 => cR_n ⟨k1, k2, k3⟩)
          exact (d210n hP hei w1 w2).c (ch.refl _ s) (fun k hk => cR_n (by omega)) rfl
        · rw [a1, a2]
          simp only [bv_some]
          rw [if_neg (by decide)]
          have hP : PR s (cR r (Int32.ofNat w) (Int32.ofNat c) 0) t e F m := h.of (ch.refl (fun _ _ => False) s) (fun a k z => z.elim) (fun k _ k1 k2 k3 => cR_n ⟨k1, k2, k3⟩)
          obtain ⟨hT, hG, hm, h8, het, h27, h35, h36, h34, h147⟩ := hP
          obtain ⟨s', r', d1, d2, d3, d4, d5⟩ := d209 (x := -1) (b := e2) hG hm h8 (by omega)
          refine ⟨s', r', by rw [d1]; rfl, d2, (d4 27 (by decide) (by decide) (by decide)).trans h27, (d4 35 (by decide) (by decide) (by decide)).trans h35, (d4 36 (by decide) (by decide) (by decide)).trans h36, d3, fun k hk => (d4 k (by omega) (by omega) (by omega)).trans (cR_n (by omega)), d5⟩
def prB (c : Int32) : Prop := isD c ∨ c = 46 ∨ c = 34 ∨ c = 35 ∨ bW c ∨ c = 36 ∨ c = 39
set_option maxRecDepth 100000 in
noncomputable def mTok (t : List Int32) (ns : List (List Int32)) (F : List Fw) (m i : Nat) : Nat ⊕ St := if b01 (isD (t.getD i 0) ∨ t.getD i 0 = 46) = 1 then (if (lexN t i).1 = 0 then .inl (lexN t i).2 else .inr ((lexN t i).2, F, [(m, plF 0 0, (sl t i (lexN t i).2).map gr)], 0, 0)) else if t.getD i 0 = 34 then (match qtA t 34 i with
    | none => .inl t.length
    | some (u, e2) => .inr (e2, F, [(m, plF 1 0, u)], 0, 0)) else if t.getD i 0 = 35 then (if (erG t i 8 0).1 = 0 then .inl (erG t i 8 0).2 else .inr ((erG t i 8 0).2, F, [(m, setN (plF 2 0) 8 (erG t i 8 0).1, [])], 0, 0)) else if t.getD i 0 = 39 then mPre t ns F m i else if t.getD i 0 = 36 then mCell t F m (-1) i else mWord t ns F m i
set_option maxRecDepth 100000 in
noncomputable def mPrim (t : List Int32) (ns : List (List Int32)) (F : List Fw) (m i : Nat) : Nat ⊕ St := if b01 (prB (t.getD i 0)) = 0 ∨ m = 128 then .inl i else mTok t ns F m i
set_option maxRecDepth 100000 in
theorem nm_b {t : List Int32} {i : Nat} (hi : i < t.length) (hc : isD (t.getD i 0) ∨ t.getD i 0 = 46) : i < (lexN t i).2 ∧ (lexN t i).2 ≤ t.length := by
  have hE := nmE_b (t := t) (i := i) (by omega)
  have hgt : i < nmE t i := by
    unfold nmE
    rcases hc with q | q
    · obtain ⟨g1, g2⟩ := cnt_y isD0 q
      have e1 : nd1 t i = nd1 t (i + 1) + 1 := g2
      split <;> omega
    · have e1 : nd1 t i = 0 := cnt_n (by rw [q]; exact isD46)
      rw [e1, Nat.add_zero, if_pos q]
      omega
  unfold lexN
  by_cases c0 : nmC t i = 0
  · rw [if_pos c0]
    exact ⟨hgt, hE.2⟩
  · rw [if_neg c0]
    by_cases c1 : gr (t.getD (nmE t i) 0) = 69
    · rw [if_pos c1]
      have h1 : nmE t i < t.length := by
        by_cases q : nmE t i < t.length
        · exact q
        · rw [getD_out (by omega)] at c1
          exact absurd c1 (by decide)
      have h2 : nmE t i < nmS t (nmE t i) ∧ nmS t (nmE t i) ≤ t.length := by
        unfold nmS
        by_cases c2 : sgP (t.getD (nmE t i + 1) 0)
        · rw [if_neg (fun q => b01_ne.mp q c2)]
          have := in_of (p := sgP) (d := 0) (by unfold sgP; decide) c2
          omega
        · rw [if_pos (b01_ne.mpr c2)]
          omega
      have h3 := nd1_b t (nmS t (nmE t i))
      have h4 : nd3 t (nmS t (nmE t i)) 0 ≤ nd1 t (nmS t (nmE t i)) := by
        unfold nd3
        split <;> omega
      exact ⟨by show i < nmS t (nmE t i) + nd3 t (nmS t (nmE t i)) 0; omega, by show nmS t (nmE t i) + nd3 t (nmS t (nmE t i)) 0 ≤ t.length; omega⟩
    · rw [if_neg c1]
      exact ⟨hgt, hE.2⟩
set_option maxRecDepth 100000 in
theorem OUT.f {s : aS} {r : Nat → Int32} {i p : Nat} : OUT s r (bu (dm186 (Int32.ofNat p) (wP s r i)) some) (.inl p) := by
  rw [d186]
  refine ⟨s, setN r 27 1, rfl, rfl, fun k hk => ?_, ch.refl _ s⟩
  unfold setN
  rw [if_neg (by omega)]
/-- while an operand is wanted -/
def OP (s : aS) (r : Nat → Int32) (t : List Int32) (ns : List (List Int32)) (e : Nat) (F : List Fw) (fr : Int32) : Prop := TX s r t ∧ GM s r e F [] ∧ okT t ∧ e ≤ t.length ∧ r 27 = 0 ∧ r 35 = fr ∧ r 36 = 1 ∧ r 34 = -1 ∧ (sT s 147).2 = 256 ∧ SX s r ns
set_option maxRecDepth 100000 in
theorem d195 {s : aS} {r : Nat → Int32} {t : List Int32} {ns : List (List Int32)} {e i : Nat} {F : List Fw} {fr : Int32} (h : OP s r t ns e F fr) (hei : e ≤ i) (hi : i < t.length) : OUT s r (dm195 (wP s r i)) (mPrim t ns F (fl F).length i) := by
  obtain ⟨hT, hG, hok, het, h27, h35, h36, h34, h147, hS⟩ := h
  have hl := hT.1
  have hfb := hG.fb
  have m1 : r 21 = Int32.ofNat (fl F).length := by
    have := hG.1.1
    rw [List.append_nil] at this
    exact this
  have hml : (fl F).length ≤ 128 := by
    have := hG.1.2
    rw [List.append_nil] at this
    exact this
  have main : b01 (prB (t.getD i 0)) = 1 → OUT s r (dm195_29 (t.getD i 0) 1 (wP s r i)) (mPrim t ns F (fl F).length i) := by
    intro hp
    have hp : prB (t.getD i 0) := by
      by_cases q : prB (t.getD i 0)
      · exact q
      · rw [b01_f q] at hp
        exact absurd hp (by decide)
    unfold dm195_29 mPrim
    rw [if_neg (show ¬ (1 : Int32) = 0 by decide), wP_f (by decide), m1]
    by_cases c8 : (fl F).length = 128
    · rw [if_pos (show Int32.ofNat (fl F).length = 128 by rw [c8]; rfl), if_pos (Or.inr c8)]
      unfold dm195_36
      rw [wP_at]
      exact OUT.f
    · rw [if_neg (show ¬ Int32.ofNat (fl F).length = 128 from fun q => c8 ((neq_iff (b := 128) (by omega) (by omega)).mp q)), if_neg (by rintro (q | q); exact b01_ne.mp q hp; exact c8 q)]
      simp only [nx_eq]
      rw [wP_set (by decide), wP_set (by decide)]
      have hP : PR s (setN (setN r 36 0) 35 0) t e F (fl F).length := ⟨(hT.set 36 _ (by decide)).set 35 _ (by decide), hG.at (Nat.le_refl _) rfl rfl rfl rfl, rfl, by omega, het, h27, rfl, rfl, h34, h147⟩
      have hS2 : SX s (setN (setN r 36 0) 35 0) ns := hS.of (ch.refl (fun _ _ => False) s) (fun a k z => z.elim) rfl
      have hr : ∀ k, k ≤ 20 → setN (setN r 36 0) 35 0 k = r k := fun k hk => by
        unfold setN
        rw [if_neg (by omega), if_neg (by omega)]
      rw [d196]
      simp only [bu_some]
      unfold mTok
      have num : (isD (t.getD i 0) ∨ t.getD i 0 = 46) → OUT s r (dm195_53 (wP s (setN (setN r 36 0) 35 0) i)) (if (lexN t i).1 = 0 then .inl (lexN t i).2 else .inr ((lexN t i).2, F, [((fl F).length, plF 0 0, (sl t i (lexN t i).2).map gr)], 0, 0)) := by
        intro hc
        have hb := nm_b hi hc
        unfold dm195_53
        rw [d199 hP.1 (by omega)]
        by_cases g : (lexN t i).1 = 0
        · rw [if_pos g, if_pos g]
          refine ⟨s, setN (setN (setN r 36 0) 35 0) 27 1, rfl, rfl, fun k hk => ?_, ch.refl _ s⟩
          rw [← hr k hk]
          exact if_neg (by omega)
        · rw [if_neg g, if_neg g]
          obtain ⟨s', r', d1, d2, d3, d4⟩ := d199n (a := i) (b := (lexN t i).2) hP.1 hP.2.1 rfl hP.2.2.2.1 hei (by omega) hb.2
          exact ⟨s', r', by rw [d1]; rfl, d2, (d3 27 (by decide) (by decide)).trans h27, d3 35 (by decide) (by decide), d3 36 (by decide) (by decide), (d3 34 (by decide) (by decide)).trans h34, fun k hk => (d3 k (by omega) (by omega)).trans (hr k hk), d4⟩
      by_cases c1 : isD (t.getD i 0)
      · rw [if_neg (fun q => b01_ne.mp q c1), if_pos (b01_t (Or.inl c1))]
        exact num (Or.inl c1)
      · rw [if_pos (b01_ne.mpr c1)]
        by_cases c2 : t.getD i 0 = 46
        · rw [if_pos c2, if_pos (b01_t (Or.inr c2))]
          exact num (Or.inr c2)
        · have c12 : ¬ b01 (isD (t.getD i 0) ∨ t.getD i 0 = 46) = 1 := by
            rw [b01_f (by rintro (q | q); exact c1 q; exact c2 q)]
            decide
          rw [if_neg c2, if_neg c12]
          by_cases c3 : t.getD i 0 = 34
          · rw [if_pos c3, if_pos c3]
            refine (d201 hP hei hi c3).c (ch.refl _ s) hr ?_
            cases dm201 (wP s (setN (setN r 36 0) 35 0) i) <;> rfl
          · rw [if_neg c3, if_neg c3]
            by_cases c4 : t.getD i 0 = 35
            · rw [if_pos c4, if_pos c4]
              have e203 : dm203 (wP s (setN (setN r 36 0) 35 0) i) = if (erG t i 8 0).1 = 0 then some (wP s (setN (setN (setN r 36 0) 35 0) 27 1) (erG t i 8 0).2) else dm203_90 (erG t i 8 0).1 (wP s (setN (setN r 36 0) 35 0) (erG t i 8 0).2) := by
                unfold dm203
                rw [wP_at]
                exact d203l (f := i) hP.1 hok (by omega) h27 8 0 5000 (by omega) (by omega) (by omega)
              have hb := erG_b (f := i) hok 8 0 (by omega)
              rw [e203]
              by_cases g : (erG t i 8 0).1 = 0
              · rw [if_pos g, if_pos g]
                refine ⟨s, setN (setN (setN r 36 0) 35 0) 27 1, rfl, rfl, fun k hk => ?_, ch.refl _ s⟩
                rw [← hr k hk]
                exact if_neg (by omega)
              · rw [if_neg g, if_neg g]
                have := hb.2 g
                obtain ⟨s', r', d1, d2, d3, d4⟩ := d203v (b := (erG t i 8 0).2) (x := (erG t i 8 0).1) hP.2.1 rfl hP.2.2.2.1 (by omega) h27
                exact ⟨s', r', by rw [d1]; rfl, d2, (d3 27 (by decide) (by decide)).trans h27, d3 35 (by decide) (by decide), d3 36 (by decide) (by decide), (d3 34 (by decide) (by decide)).trans h34, fun k hk => (d3 k (by omega) (by omega)).trans (hr k hk), d4⟩
            · rw [if_neg c4, if_neg c4]
              by_cases c5 : t.getD i 0 = 39
              · rw [if_pos c5, if_pos c5]
                refine (d205 hP hS2 hei hi).c (ch.refl _ s) hr ?_
                cases dm205 (wP s (setN (setN r 36 0) 35 0) i) <;> rfl
              · rw [if_neg c5, if_neg c5]
                by_cases c6 : t.getD i 0 = 36
                · rw [if_pos c6, if_pos c6]
                  refine (d207c hP hei (by omega) (fun s1 r1 i1 q => ?_) (fun s1 r1 i1 q => ?_)).c (ch.refl _ s) hr rfl
                  · rw [wP_f (by decide), q, if_pos rfl]
                  · rw [wP_f (by decide), q, if_neg (by decide)]
                · rw [if_neg c6, if_neg c6]
                  refine (d210 hP hS2 hei hi).c (ch.refl _ s) hr ?_
                  cases dm210 (wP s (setN (setN r 36 0) 35 0) i) <;> rfl
  unfold dm195 dm195_26
  rw [wP_at, rch hT (by omega)]
  simp only [bu_some, d196, d197]
  by_cases c1 : isD (t.getD i 0)
  · rw [if_neg (fun q => b01_ne.mp q c1)]
    exact main (b01_t (Or.inl c1))
  · rw [if_pos (b01_ne.mpr c1)]
    by_cases c2 : t.getD i 0 = 46
    · rw [if_pos c2]
      exact main (b01_t (Or.inr (Or.inl c2)))
    · rw [if_neg c2]
      by_cases c3 : t.getD i 0 = 34
      · rw [if_pos c3]
        exact main (b01_t (Or.inr (Or.inr (Or.inl c3))))
      · rw [if_neg c3]
        by_cases c4 : t.getD i 0 = 35
        · rw [if_pos c4]
          exact main (b01_t (Or.inr (Or.inr (Or.inr (Or.inl c4)))))
        · rw [if_neg c4]
          by_cases c5 : bW (t.getD i 0)
          · rw [if_neg (fun q => b01_ne.mp q c5)]
            exact main (b01_t (Or.inr (Or.inr (Or.inr (Or.inr (Or.inl c5))))))
          · rw [if_pos (b01_ne.mpr c5)]
            by_cases c6 : t.getD i 0 = 36
            · rw [if_pos c6]
              exact main (b01_t (Or.inr (Or.inr (Or.inr (Or.inr (Or.inr (Or.inl c6)))))))
            · rw [if_neg c6]
              by_cases c7 : t.getD i 0 = 39
              · rw [if_pos c7]
                exact main (b01_t (Or.inr (Or.inr (Or.inr (Or.inr (Or.inr (Or.inr c7)))))))
              · rw [if_neg c7]
                unfold dm195_29 dm195_36 mPrim
                have np : ¬ prB (t.getD i 0) := by
                  rintro (q | q | q | q | q | q | q)
                  · exact c1 q
                  · exact c2 q
                  · exact c3 q
                  · exact c4 q
                  · exact c5 q
                  · exact c6 q
                  · exact c7 q
                rw [if_pos rfl, if_pos (Or.inl (b01_ne.mpr np)), wP_at]
                exact OUT.f
