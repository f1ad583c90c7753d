/-! read, move, shift and drop of FormulaTrees come to their end -/
section CVs
variable {tt : Nat} {xs : List Int32} {s : aS} {t : List Int32} {ns : List (List Int32)} {b c : Nat}
set_option maxRecDepth 100000 in
theorem nT_0 (s : aS) : (sT (nTree s) (sL s)).1 = 3 := by rw [nTree_T, if_neg (by omega), if_neg (by omega), if_neg (by omega), if_pos rfl]
set_option maxRecDepth 100000 in
theorem ly_100 {v : Value} {k : Nat} (hl : Ly tt (cCc xs) s) : Ly tt (cCc xs) (wR s 100 k v) := hl.wRd (show sT s 100 = (113, 8) from hl.T (a := 100) (p := (113, 8)) 22 rfl rfl) (by decide) (lay_noR _)
set_option maxRecDepth 100000 in
/-- the tree that was read takes its place: an old one is there -/
theorem td_old {f c b : Nat} {v : Int32} (h : TD s) (hf : f < 8) (hc : sR s 100 f = .ref c) (hb : sR s 78 6 = .ref b) : TD (wR (wI (wR s 100 f (.ref b)) 101 f v) 78 6 (.ref c)) := by
  obtain ⟨a1, a2, b9, b1, b2, b3⟩ := h
  rw [hb] at b1
  cases b1
  have eR : ∀ g, sR (wR (wI (wR s 100 f (.ref b)) 101 f v) 78 6 (.ref c)) 100 g = if g = f then .ref b else sR s 100 g := fun g => by
    rw [sR_wR, if_neg (by omega), sR_wI, sR_wR]
    by_cases e : g = f
    · rw [if_pos ⟨rfl, e⟩, if_pos e]
    · rw [if_neg (fun z => e z.2), if_neg e]
  have hck : aK s c 3 := by
    rcases a1 f hf with z | ⟨d, z1, z2⟩
    · rw [z] at hc
      cases hc
    · rw [z1] at hc
      cases hc
      exact z2
  refine ⟨fun g hg => ?_, fun g k d hg hk q1 q2 => ?_, c, by rw [sR_wR, if_pos ⟨rfl, rfl⟩], hck, fun g hg => ?_⟩
  · rw [eR]
    by_cases e : g = f
    · rw [if_pos e]
      exact Or.inr ⟨b, rfl, b2⟩
    · rw [if_neg e]
      exact a1 g hg
  · rw [eR] at q1 q2
    by_cases e1 : g = f
    · by_cases e2 : k = f
      · rw [e1, e2]
      · rw [if_pos e1] at q1
        rw [if_neg e2] at q2
        cases q1
        exact absurd q2 (b3 k hk)
    · by_cases e2 : k = f
      · rw [if_neg e1] at q1
        rw [if_pos e2] at q2
        cases q2
        exact absurd q1 (b3 g hg)
      · rw [if_neg e1] at q1
        rw [if_neg e2] at q2
        exact a2 g k d hg hk q1 q2
  · rw [eR]
    by_cases e : g = f
    · rw [if_pos e]
      intro q
      cases q
      exact b3 f hf hc
    · rw [if_neg e]
      exact fun q => e (a2 g f c hg hf q hc)
set_option maxRecDepth 100000 in
/-- and where there is none -/
theorem td_new {f b : Nat} {v : Int32} (h : TD s) (hL : 149 ≤ sL s) (hf : f < 8) (hb : sR s 78 6 = .ref b) : TD (wR (nTree (wI (wR s 100 f (.ref b)) 101 f v)) 78 6 (.ref (sL s))) := by
  obtain ⟨a1, a2, b9, b1, b2, b3⟩ := h
  rw [hb] at b1
  cases b1
  have eR : ∀ g, sR (wR (nTree (wI (wR s 100 f (.ref b)) 101 f v)) 78 6 (.ref (sL s))) 100 g = if g = f then .ref b else sR s 100 g := fun g => by
    rw [sR_wR, if_neg (by omega), nT_R (s := wI (wR s 100 f (.ref b)) 101 f v) (show 100 < sL s by omega), sR_wI, sR_wR]
    by_cases e : g = f
    · rw [if_pos ⟨rfl, e⟩, if_pos e]
    · rw [if_neg (fun z => e z.2), if_neg e]
  have eK : ∀ d, aK s d 3 → aK (wR (nTree (wI (wR s 100 f (.ref b)) 101 f v)) 78 6 (.ref (sL s))) d 3 := fun d hd => nT_K (s := wI (wR s 100 f (.ref b)) 101 f v) hd
  have eN : aK (wR (nTree (wI (wR s 100 f (.ref b)) 101 f v)) 78 6 (.ref (sL s))) (sL s) 3 := ⟨by show sL s < sL s + 4; omega, by
    exact nT_0 (wI (wR s 100 f (.ref b)) 101 f v)⟩
  refine ⟨fun g hg => ?_, fun g k d hg hk q1 q2 => ?_, sL s, by rw [sR_wR, if_pos ⟨rfl, rfl⟩], eN, fun g hg => ?_⟩
  · rw [eR]
    by_cases e : g = f
    · rw [if_pos e]
      exact Or.inr ⟨b, rfl, eK b b2⟩
    · rw [if_neg e]
      rcases a1 g hg with z | ⟨d, z1, z2⟩
      · exact Or.inl z
      · exact Or.inr ⟨d, z1, eK d z2⟩
  · rw [eR] at q1 q2
    by_cases e1 : g = f
    · by_cases e2 : k = f
      · rw [e1, e2]
      · rw [if_pos e1] at q1
        rw [if_neg e2] at q2
        cases q1
        exact absurd q2 (b3 k hk)
    · by_cases e2 : k = f
      · rw [if_neg e1] at q1
        rw [if_pos e2] at q2
        cases q2
        exact absurd q1 (b3 g hg)
      · rw [if_neg e1] at q1
        rw [if_neg e2] at q2
        exact a2 g k d hg hk q1 q2
  · rw [eR]
    by_cases e : g = f
    · rw [if_pos e]
      intro q
      cases q
      exact absurd b2.1 (Nat.lt_irrefl _)
    · rw [if_neg e]
      intro q
      rcases a1 g hg with z | ⟨d, z1, z2⟩
      · rw [z] at q
        cases q
      · rw [z1] at q
        cases q
        exact absurd z2.1 (Nat.lt_irrefl _)
set_option maxRecDepth 100000 in
theorem y62 (h : CV s t ns) (hl : Ly tt (cCc xs) s) (x1 x2 : Int32) : Cm s t ns pI (dm62 x1 x2 s) := by
  unfold dm62 dm62_8
  rcases y55 x1 with ⟨-, e⟩ | ⟨hx, e⟩
  · rw [e]
    simp only [bu_some]
    rw [if_pos trivial]
    exact Cm.x h hl (Or.inr rfl) (by decide)
  · rw [e, d40 h.2.1.1.1 h.2.1.2.1]
    simp only [bu_some]
    rw [if_neg (by decide)]
    by_cases c : 0 ≤ x2.toInt ∧ x2.toInt < ns.length
    · rw [b01_t c, if_neg (by decide)]
      obtain ⟨b, b1, b2, b3⟩ := h.2.2.1.2.2
      rw [b1, vN_ref, if_pos b2]
      have h3 := tr_at hl b2
      have k108 : (sT s 108).2 = 256 := by rw [hl.T (a := 108) (p := (102, 256)) 30 rfl rfl]
      obtain ⟨v, s1, j, g1, g2, g3⟩ := k63 (s := s) (b := b) (t := t) (ns := ns) h.1.1 h.1.2.1 h.1.2.2 h.2.1.1.1 h.2.1.2 ⟨b2, h3, by rw [(hl.tr b2).2.2.2.2.2.2.1], k108, ⟨(RC.ly hl).1, RC.ly hl, TF.ly hl, ES.ly hl⟩, h.2.2.2.2.1, h.2.2.2.2.2.1⟩
      have hl1 := (dt63 (sio := true) (d := 2000) (by decide) hl b2 g1).1
      rw [g1]
      simp only [bv_some]
      have hc1 : ch (fun a k => AC b a k ∨ (a = 106 ∧ k = 6)) s s1 := ((ch.refl _ s).wR (Or.inr ⟨rfl, rfl⟩)).trans (g2.1.mono fun a k z => Or.inl z)
      have hV : CV s1 t ns := h.rd hl b2 hc1 (fun a k z => by unfold AC at z; omega) g2.2.2.w g2.2.2.2
      have e78 : sR s1 78 6 = .ref b := (hc1.r (by unfold AC; omega)).trans b1
      have hb1 : aK s1 b 3 := hc1.k.mpr b2
      have hL1 : 149 ≤ sL s1 := hl1.1
      have hx8 : x1.toInt.toNat < 8 := by omega
      split
      · rw [if_pos (aB_iff.mpr hx)]
        rcases hV.2.2.1.1 x1.toInt.toNat hx8 with z | ⟨d, z1, z2⟩
        · rw [show sR s1 100 (jN x1) = .null from z, vN_null, e78, vN_ref, if_pos hb1, if_pos (aB_iff.mpr hx)]
          simp only [nx_eq]
          rw [if_pos (aB_iff.mpr hx)]
          unfold dm62_46
          simp only [nx_eq]
          have u1 : CU (wI (wR s1 100 (jN x1) (.ref b)) 101 (jN x1) x2) t ns := hV.u.of hl1 (A := fun a _ => a = 100 ∨ a = 101) (((ch.refl _ s1).wR (Or.inl rfl)).wI (Or.inr rfl)) (fun a k z => by omega)
          have l1 : Ly tt (cCc xs) (wI (wR s1 100 (jN x1) (.ref b)) 101 (jN x1) x2) := (ly_100 hl1).wId (by decide)
          have u2 : CU (nTree (wI (wR s1 100 (jN x1) (.ref b)) 101 (jN x1) x2)) t ns := u1.gx l1 (gx_nT _) (nT_w _ hL1)
          have l2 := (lay_tree l1.gL l1).1
          have u3 := u2.of l2 (A := fun a _ => a = 78) ((ch.refl _ _).wR (k := 6) (v := .ref (sL s1)) rfl) (fun a k z => by omega)
          refine ⟨_, _, rfl, Or.inl ⟨v, rfl⟩, u3.v (td_new hV.2.2.1 hL1 hx8 e78), ?_⟩
          have w1 : gw s1 (nTree (wI (wR s1 100 (jN x1) (.ref b)) 101 (jN x1) x2)) := gw_nT (wI (wR s1 100 (jN x1) (.ref b)) 101 (jN x1) x2)
          exact gw.d hc1 (w1.tr (A := fun a _ => a = 78) ((ch.refl _ _).wR rfl))
        · rw [show sR s1 100 (jN x1) = .ref d from z1, vN_ref, if_pos z2, e78, vN_ref, if_pos hb1, if_pos (aB_iff.mpr hx)]
          simp only [nx_eq]
          rw [if_pos (aB_iff.mpr hx)]
          unfold dm62_46
          simp only [nx_eq]
          have g9 : ch (fun a _ => a = 100 ∨ a = 101 ∨ a = 78) s1 (wR (wI (wR s1 100 (jN x1) (.ref b)) 101 (jN x1) x2) 78 6 (.ref d)) := (((ch.refl _ s1).wR (Or.inl rfl)).wI (Or.inr (Or.inl rfl))).wR (Or.inr (Or.inr rfl))
          have u1 : CU (wR (wI (wR s1 100 (jN x1) (.ref b)) 101 (jN x1) x2) 78 6 (.ref d)) t ns := hV.u.of hl1 g9 (fun a k z => by omega)
          exact ⟨_, _, rfl, Or.inl ⟨v, rfl⟩, u1.v (td_old hV.2.2.1 hx8 z1 e78), gw.d hc1 (gw_ch g9)⟩
      · exact ⟨_, s1, rfl, Or.inl ⟨v, rfl⟩, hV, gw_ch hc1⟩
    · rw [b01_f c, if_pos rfl]
      exact Cm.x h hl (Or.inr rfl) (by decide)
set_option maxRecDepth 100000 in
theorem y128 (h : CV s t ns) (hl : Ly tt (cCc xs) s) (hc : aK s c 3) (r q : Int32) : ∃ s1, dm128 c r q s = some s1 ∧ CV s1 t ns ∧ ch (fun a _ => a = c + 1) s s1 := by
  obtain ⟨i, N, hN, hk⟩ := kn_of (h.2.2.2.1 c hc) h.2.2.2.2
  obtain ⟨s1, g1, g2, g3⟩ := k128 hk (tr_at hl hc) hN r q
  exact ⟨s1, g1, h.tree hl hc g3 (fun a k z => by omega) g2.1.2.2.w, g3⟩
set_option maxRecDepth 100000 in
theorem y125m (h : CV s t ns) (hl : Ly tt (cCc xs) s) (hb : aK s b 3) (hc : aK s c 3) {x1 x5 : Int32} (hx : 0 ≤ x5.toInt ∧ x5.toInt < 8) (hbc : x5 = x1 ∨ c ≠ b) (x2 x3 x4 : Int32) : ∃ s1, dm125_46 x1 x2 x3 x4 x5 b c s = some (.inl none, s1) ∧ CV s1 t ns ∧ ch (fun _ _ => True) s s1 := by
  have f52 : ∀ s, CV s t ns → Ly tt (cCc xs) s → aK s c 3 → ∃ s1, dm125_52 x2 x3 x4 x5 c s = some (.inl none, s1) ∧ CV s1 t ns ∧ ch (fun _ _ => True) s s1 := by
    intro s h hl hc
    obtain ⟨s1, g1, g2, g3⟩ := y128 h hl hc x2 x3
    have l1 := (dt128 (sio := true) (d := 2000) (by decide) hl hc g1).1
    unfold dm125_52
    rw [g1]
    simp only [bu_some]
    rw [if_pos (aB_iff.mpr hx)]
    simp only [nx_eq]
    have g4 : ch (fun a _ => a = 101) s1 (wI s1 101 (jN x5) x4) := (ch.refl _ s1).wI rfl
    exact ⟨_, rfl, g2.of l1 g4 (fun a k z => Or.inl z), (g3.mono fun _ _ _ => trivial).trans (g4.mono fun _ _ _ => trivial)⟩
  unfold dm125_46
  by_cases e : x5 = x1
  · rw [if_pos e]
    exact f52 s h hl hc
  · rw [if_neg e]
    obtain ⟨s1, g1, g2, g3⟩ := k127 hl hc hb (hbc.resolve_left e) (h.2.2.2.1 b hb)
    have l1 := (dt127 (sio := true) (d := 2000) (by decide) hl hc hb g1).1
    rw [g1]
    simp only [bu_some]
    obtain ⟨s2, k1, k2, k3⟩ := f52 s1 (h.tree hl hc g3 (fun a k z => Or.inr z) g2) l1 (g3.k.mpr hc)
    exact ⟨s2, k1, k2, (g3.mono fun _ _ _ => trivial).trans k3⟩
set_option maxRecDepth 100000 in
theorem y126 (x : Int32) : ∃ v, dm126 x = some v := by
  unfold dm126
  repeat' split
  all_goals exact ⟨_, rfl⟩
set_option maxRecDepth 100000 in
theorem y125 (h : CV s t ns) (hl : Ly tt (cCc xs) s) (x1 x2 x3 x4 x5 : Int32) : Cm s t ns pM (dm125 x1 x2 x3 x4 x5 s) := by
  have hL : 149 ≤ sL s := hl.1
  unfold dm125 dm125_14 dm125_25
  rcases y54 h.2.2.1 x1 with e | ⟨b, e, e2, e3, e4⟩
  · obtain ⟨r, er⟩ : ∃ r, dm55 x5 = some r := by
      rcases y55 x5 with ⟨-, z⟩ | ⟨-, z⟩
      · exact ⟨_, z⟩
      · exact ⟨_, z⟩
    rw [e, er]
    simp only [bu_some, vN_null, ite_self]
    exact Cm.x h hl (Or.inr (Or.inl rfl)) (by decide)
  · rw [e]
    simp only [bu_some, vN_ref]
    rw [if_pos e2]
    rcases y55 x5 with ⟨-, z⟩ | ⟨hx, z⟩
    · rw [z]
      simp only [bu_some]
      rw [if_pos trivial]
      exact Cm.x h hl (Or.inr (Or.inl rfl)) (by decide)
    · obtain ⟨r2, w2⟩ := y126 x2
      obtain ⟨r3, w3⟩ := y126 x3
      rw [z, d40 h.2.1.1.1 h.2.1.2.1, w2, w3]
      simp only [bu_some]
      rw [if_neg (by decide)]
      split
      · exact Cm.x h hl (Or.inr (Or.inl rfl)) (by decide)
      · split
        · exact Cm.x h hl (Or.inr (Or.inr rfl)) (by decide)
        · split
          · exact Cm.x h hl (Or.inr (Or.inr rfl)) (by decide)
          · rw [if_pos (aB_iff.mpr hx)]
            rcases h.2.2.1.1 x5.toInt.toNat (by omega) with z | ⟨d, z1, z2⟩
            · have hn : sR s 100 (jN x5) = .null := z
              rw [hn, vN_null]
              simp only [nx_eq]
              rw [if_pos (aB_iff.mpr hx)]
              have l1 := (lay_tree hl.gL hl).1
              have u1 : CU (nTree s) t ns := h.u.gx hl (gx_nT s) (nT_w s hL)
              have u2 : CU (wR (nTree s) 100 (jN x5) (.ref (sL s))) t ns := u1.of l1 (A := fun a _ => a = 100) ((ch.refl _ _).wR rfl) (fun a k z => by omega)
              have v2 : CV (wR (nTree s) 100 (jN x5) (.ref (sL s))) t ns := u2.v (TD.nT h.2.2.1 hL (show x5.toInt.toNat < 8 by omega) z)
              have l2 : Ly tt (cCc xs) (wR (nTree s) 100 (jN x5) (.ref (sL s))) := ly_100 l1
              have eN : aK (wR (nTree s) 100 (jN x5) (.ref (sL s))) (sL s) 3 := (lay_tree hl.gL hl).2.2
              obtain ⟨s1, k1, k2, k3⟩ := y125m (x1 := x1) (x5 := x5) v2 l2 (b := b) (c := sL s) (nT_K e2) eN hx (Or.inr (by have := e2.1; omega)) x2 x3 x4
              rw [k1]
              refine ⟨_, s1, rfl, Or.inl rfl, k2, ?_⟩
              exact ((gw_nT s).tr (A := fun a _ => a = 100) ((ch.refl _ _).wR (k := jN x5) (v := .ref (sL s)) rfl)).tr k3
            · rw [show sR s 100 (jN x5) = .ref d from z1, vN_ref, if_pos z2]
              obtain ⟨s1, k1, k2, k3⟩ := y125m (x1 := x1) (x5 := x5) h hl (b := b) (c := d) e2 z2 hx (by
                by_cases q : d = b
                · left
                  subst q
                  have := h.2.2.1.2.1 x5.toInt.toNat x1.toInt.toNat d (by omega) (by omega) z1 e4
                  rw [iEq]
                  omega
                · exact Or.inr q) x2 x3 x4
              rw [k1]
              exact ⟨_, s1, rfl, Or.inl rfl, k2, gw_ch k3⟩
set_option maxRecDepth 100000 in
theorem y133 (h : CV s t ns) (hl : Ly tt (cCc xs) s) (x1 x2 x3 x4 : Int32) : Cm s t ns pJ (dm133 x1 x2 x3 x4 s) := by
  have loop : ∀ (m f n : Nat) (x5 : Int32) (s : aS), CV s t ns → Ly tt (cCc xs) s → f + m = 8 → m < n → ∃ v s1, dm133_29 n x1 x2 x3 x4 x5 (Int32.ofNat f) s = some (.inl (some (.int v)), s1) ∧ CV s1 t ns ∧ ch (fun _ _ => True) s s1 := by
    intro m
    induction m with
    | zero =>
      intro f n x5 s h hl h1 h2
      obtain ⟨n, rfl⟩ : ∃ q, n = q + 1 := ⟨n - 1, by omega⟩
      have hf : f = 8 := by omega
      subst hf
      rw [dm133_29, if_pos (by decide)]
      exact ⟨x5, s, rfl, h, ch.refl _ s⟩
    | succ m ih =>
      intro f n x5 s h hl h1 h2
      obtain ⟨n, rfl⟩ : ∃ q, n = q + 1 := ⟨n - 1, by omega⟩
      rw [dm133_29, if_neg (fun q => by have := (nle_iff (a := 8) (by omega) (by omega)).mp q; omega)]
      rcases y54 h.2.2.1 (Int32.ofNat f) with e | ⟨b, e, e2, e3, e4⟩
      · rw [e]
        simp only [bu_some, vN_null]
        unfold dm133_56
        rw [ofNat_succ (by omega)]
        exact ih (f + 1) n x5 s h hl (by omega) (by omega)
      · rw [e]
        simp only [bu_some, vN_ref]
        rw [if_pos e2, if_pos (aB_of (by omega) (by omega))]
        have f50 : ∀ y3, ∃ v s1, dm133_50 (dm133_29 n) x1 x2 x3 x4 (Int32.ofNat f) x5 b x1 y3 s = some (.inl (some (.int v)), s1) ∧ CV s1 t ns ∧ ch (fun _ _ => True) s s1 := by
          intro y3
          obtain ⟨i, N, hN, hk⟩ := kn_of (h.2.2.2.1 b e2) h.2.2.2.2
          obtain ⟨v, s1, g1, g2, g3⟩ := k134 hk (tr_at hl e2) hN x1 y3 x2 x3 x4
          have l1 := (dt134 (sio := true) (d := 2000) (by decide) hl e2 g1).1
          unfold dm133_50 dm133_56
          rw [g1]
          simp only [bv_some]
          rw [ofNat_succ (by omega)]
          obtain ⟨v2, s2, k1, k2, k3⟩ := ih (f + 1) n (x5 + v) s1 (h.tree hl e2 g3 (fun a k z => by omega) g2.1.2.2.w) l1 (by omega) (by omega)
          exact ⟨v2, s2, k1, k2, (g3.mono fun _ _ _ => trivial).trans k3⟩
        split
        · exact f50 1
        · exact f50 0
  obtain ⟨r8, w8⟩ := e132 x2
  obtain ⟨r4, w4⟩ := y126 x4
  unfold dm133 dm133_20
  rw [d40 h.2.1.1.1 h.2.1.2.1, w8, w4]
  simp only [bu_some]
  split
  · exact Cm.x h hl (Or.inr (Or.inl rfl)) (by decide)
  · split
    · exact Cm.x h hl (Or.inr (Or.inr rfl)) (by decide)
    · split
      · exact Cm.x h hl (Or.inr (Or.inr rfl)) (by decide)
      · split
        · exact Cm.x h hl (Or.inr (Or.inr rfl)) (by decide)
        · obtain ⟨v, s1, k1, k2, k3⟩ := loop 8 0 5000 0 s h hl (by omega) (by omega)
          have k1 : dm133_29 5000 x1 x2 x3 x4 0 0 s = some (.inl (some (.int v)), s1) := k1
          rw [k1]
          exact ⟨_, s1, rfl, Or.inl ⟨v, rfl⟩, k2, gw_ch k3⟩
set_option maxRecDepth 100000 in
theorem ok_er {i : Nat} (h : nsOk ns) : nsOk (ns.eraseIdx i) := ⟨Nat.le_trans (List.length_eraseIdx_le ns i) h.1, fun n hn => h.2 n (List.mem_of_mem_eraseIdx hn)⟩
set_option maxRecDepth 100000 in
theorem y61 (x y : Int32) : ∃ v, dm61 x y = some v := by
  unfold dm61
  repeat' split
  all_goals exact ⟨_, rfl⟩
set_option maxRecDepth 100000 in
theorem y52 (h : CV s t ns) (hl : Ly tt (cCc xs) s) (x : Int32) : (¬ (0 ≤ x.toInt ∧ x.toInt < ns.length) ∧ dm52 x s = some (.inr 2, nw s 82 0)) ∨ ((0 ≤ x.toInt ∧ x.toInt < ns.length) ∧ ∃ s1, dm52 x s = some (.inl none, s1) ∧ CV s1 t (ns.eraseIdx x.toInt.toNat) ∧ gw s s1) := by
  have loop : ∀ (m f n : Nat) (ns : List (List Int32)) (s : aS), CV s t ns → Ly tt (cCc xs) s → f + m = 8 → m < n → ∃ s1, dm52_16 n x (Int32.ofNat f) s = some (.inl none, s1) ∧ CV s1 t ns ∧ ch (fun _ _ => True) s s1 := by
    intro m
    induction m with
    | zero =>
      intro f n ns s h hl h1 h2
      obtain ⟨n, rfl⟩ : ∃ q, n = q + 1 := ⟨n - 1, by omega⟩
      have hf : f = 8 := by omega
      subst hf
      rw [dm52_16, if_pos (by decide)]
      exact ⟨s, rfl, h, ch.refl _ s⟩
    | succ m ih =>
      intro f n ns s h hl h1 h2
      obtain ⟨n, rfl⟩ : ∃ q, n = q + 1 := ⟨n - 1, by omega⟩
      rw [dm52_16, if_neg (fun q => by have := (nle_iff (a := 8) (by omega) (by omega)).mp q; omega)]
      rcases y54 h.2.2.1 (Int32.ofNat f) with e | ⟨b, e, e2, e3, e4⟩
      · rw [e]
        simp only [bu_some, vN_null]
        unfold dm52_38
        rw [ofNat_succ (by omega)]
        exact ih (f + 1) n ns s h hl (by omega) (by omega)
      · obtain ⟨i, N, hN, hk⟩ := kn_of (h.2.2.2.1 b e2) h.2.2.2.2
        obtain ⟨s1, g1, g2, g3⟩ := k56 hk (tr_at hl e2) hN x
        have l1 := (dt56 (sio := true) (d := 2000) (by decide) hl e2 g1).1
        have v1 : CV s1 t ns := h.tree hl e2 g3 (fun a k z => by omega) g2.1.2.2.w
        rw [e]
        simp only [bu_some, vN_ref]
        rw [if_pos e2, g1]
        simp only [bu_some]
        obtain ⟨r, er⟩ := y61 (sI s1 101 (jN (Int32.ofNat f))) x
        rw [if_pos (aB_of (by omega) (by omega)), er]
        simp only [bu_some, nx_eq]
        rw [if_pos (aB_of (by omega) (by omega))]
        unfold dm52_38
        rw [ofNat_succ (by omega)]
        have g4 : ch (fun a _ => a = 101) s1 (wI s1 101 (jN (Int32.ofNat f)) r) := (ch.refl _ s1).wI rfl
        obtain ⟨s2, k1, k2, k3⟩ := ih (f + 1) n ns (wI s1 101 (jN (Int32.ofNat f)) r) (v1.of l1 g4 (fun a k z => Or.inl z)) (l1.wId (by decide)) (by omega) (by omega)
        exact ⟨s2, k1, k2, ((g3.mono fun _ _ _ => trivial).trans (g4.mono fun _ _ _ => trivial)).trans k3⟩
  unfold dm52
  rw [d40 h.2.1.1.1 h.2.1.2.1]
  simp only [bu_some]
  by_cases hx : 0 ≤ x.toInt ∧ x.toInt < ns.length
  · right
    refine ⟨hx, ?_⟩
    rw [b01_t hx, if_neg (by decide)]
    obtain ⟨s1, g1, g2, g3⟩ := d53 (i := x.toInt.toNat) h.2.1.1 (RC.ly hl) h.2.1.2 (TF.ly hl) (by omega)
    rw [← ofNat_of (x := x) hx.1] at g1
    have hl1 : Ly tt (cCc xs) s1 := (dt53 (sio := true) (d := 2000) (by decide) hl g1).1
    rw [g1]
    simp only [bu_some]
    obtain ⟨s2, k1, k2, k3⟩ := loop 8 0 5000 _ s1 (h.nm hl g3 g2 (ok_er h.2.1.2)) hl1 (by omega) (by omega)
    exact ⟨s2, k1, k2, gw_ch ((g3.mono fun _ _ _ => trivial).trans k3)⟩
  · left
    rw [b01_f hx, if_pos rfl]
    exact ⟨hx, rfl⟩
end CVs
