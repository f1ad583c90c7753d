/-! words whole, in the reference -/
set_option maxRecDepth 100000 in
/-- a word with $ behind it -/
noncomputable def mDol (t : List Int32) (F : List Fw) (m i e : Nat) : Nat ⊕ St := if lo t i e < e - i ∨ 3 < lo t i e ∨ 16384 < cv4 t (lo t i e) i then .inl e else if b01 (rowB t (e + dlR t e)) = 0 then .inl (e + dlR t e) else .inr ((rwG t 300 (e + dlR t e) 0).2, F, [(m, clD (-1) (Int32.ofNat (rwG t 300 (e + dlR t e) 0).1) (Int32.ofNat (cv4 t (lo t i e) i)) (Int32.ofNat (0 + dlR t e)), [])], 0, 1)
set_option maxRecDepth 100000 in
theorem d210d {s : aS} {r : Nat → Int32} {t : List Int32} {e0 i e m : Nat} {F : List Fw} (h : PR s r t e0 F m) (hei : e0 ≤ i) (hie : i ≤ e) (he : e ≤ t.length) : OUT s r (bu (dm212 (Int32.ofNat i) (Int32.ofNat e) (wP s r e)) fun r14 =>
        nx (wI (wP s r e) 121 41 0) fun s15 =>
        nx (wI s15 121 39 0) fun s18 =>
        bu (dm213 (Int32.ofNat i) r14 s18) fun r23 =>
        nx (wI s18 121 40 r23) fun s24 =>
        if r14 < (Int32.ofNat e - Int32.ofNat i) then
          dm210_53 (Int32.ofNat e) s24
        else
          if 3 < r14 then
            dm210_53 (Int32.ofNat e) s24
          else
            if (sI s24 121 40) ≤ 16384 then
              bu (dm208 s24) fun s32 =>
              if (sI s32 121 27) = 0 then
                bu (dm209 (-1) s32) fun s36 =>
                dm210_65 s36
              else
                dm210_65 s32
            else
              dm210_53 (Int32.ofNat e) s24) (mDol t F m i e) := by
  obtain ⟨hT, hG, hm, h8, het, h27, h35, h36, h34, h147⟩ := h
  have hl := hT.1
  have hb := lo_b t i e
  have hL : ∀ q, q < lo t i e → isL (t.getD (i + q) 0) := fun q hq => lo_is (e := e) hq
  have hcb := cv4_b hL
  have hT2 : TX s (setN (setN r 41 0) 39 0) t := (hT.set 41 _ (by decide)).set 39 _ (by decide)
  have es : Int32.ofNat e - Int32.ofNat i = Int32.ofNat (e - i) := by
    rw [iEq, iSub (by rw [iOfNat (by omega), iOfNat (by omega)]; omega) (by rw [iOfNat (by omega), iOfNat (by omega)]; omega), iOfNat (by omega), iOfNat (by omega), iOfNat (by omega)]
    omega
  have eR : setN (setN (setN r 41 0) 39 0) 40 (Int32.ofNat (cv4 t (lo t i e) i)) = cR r 0 (Int32.ofNat (cv4 t (lo t i e) i)) (Int32.ofNat 0) := by
    unfold cR
    rw [setN_c (by decide)]
    rfl
  rw [d212 hT hie he]
  simp only [bu_some, nx_eq]
  rw [wP_set (by decide), wP_set (by decide), d213 hT2 hL (by omega)]
  simp only [bu_some, nx_eq]
  rw [wP_set (by decide), eR, es]
  have k1 : Int32.ofNat (lo t i e) < Int32.ofNat (e - i) ↔ lo t i e < e - i := nlt_iff (by omega) (by omega)
  have k2 : 3 < Int32.ofNat (lo t i e) ↔ 3 < lo t i e := nlt_iff (a := 3) (by omega) (by omega)
  have k3 : Int32.ofNat (cv4 t (lo t i e) i) ≤ 16384 ↔ cv4 t (lo t i e) i ≤ 16384 := nle_iff (b := 16384) (by omega) (by omega)
  have bad : OUT s r (dm210_53 (Int32.ofNat e) (wP s (cR r 0 (Int32.ofNat (cv4 t (lo t i e) i)) (Int32.ofNat 0)) e)) (.inl e) := by
    unfold dm210_53
    rw [d186]
    refine ⟨s, setN (cR r 0 (Int32.ofNat (cv4 t (lo t i e) i)) (Int32.ofNat 0)) 27 1, rfl, rfl, fun k hk => ?_, ch.refl _ s⟩
    unfold setN
    rw [if_neg (by omega)]
    exact cR_n (by omega)
  unfold mDol
  by_cases c1 : lo t i e < e - i
  · rw [if_pos (k1.mpr c1), if_pos (Or.inl c1)]
    exact bad
  · rw [if_neg (fun q => c1 (k1.mp q))]
    by_cases c2 : 3 < lo t i e
    · rw [if_pos (k2.mpr c2), if_pos (Or.inr (Or.inl c2))]
      exact bad
    · rw [if_neg (fun q => c2 (k2.mp q)), wP_f (by decide), cR_c]
      by_cases c3 : 16384 < cv4 t (lo t i e) i
      · rw [if_neg (fun q => by have := k3.mp q; omega), if_pos (Or.inr (Or.inr c3))]
        exact bad
      · rw [if_pos (k3.mpr (by omega)), if_neg (by rintro (q | q | q); exact c1 q; exact c2 q; exact c3 q), d208 hT he (by omega)]
        simp only [bu_some]
        have hd := dlR_b he
        by_cases g : rowB t (e + dlR t e)
        · simp only [if_neg (fun q => b01_ne.mp q g)]
          obtain ⟨w1, w2, w3⟩ := rw_pos g
          obtain ⟨v1, v2, v3, v4⟩ := rwG_b (t := t) 300 (e + dlR t e) 0 (by omega) (by omega)
          have hG2 : GM s (cR r (Int32.ofNat (rwG t 300 (e + dlR t e) 0).1) (Int32.ofNat (cv4 t (lo t i e) i)) (Int32.ofNat (0 + dlR t e))) e0 F [] := hG.at (Nat.le_refl _) (cR_n (by decide)) (cR_n (by decide)) (cR_n (by decide)) (cR_n (by decide))
          obtain ⟨s', r', d1, d2, d3, d4, d5⟩ := d209 (x := -1) (b := (rwG t 300 (e + dlR t e) 0).2) hG2 hm h8 (by omega)
          refine ⟨s', r', ?_, d2, (d4 27 (by decide) (by decide) (by decide)).trans ((cR_n (by decide)).trans h27), (d4 35 (by decide) (by decide) (by decide)).trans ((cR_n (by decide)).trans h35), (d4 36 (by decide) (by decide) (by decide)).trans ((cR_n (by decide)).trans h36), d3, fun k hk => (d4 k (by omega) (by omega) (by omega)).trans (cR_n (by omega)), d5⟩
          rw [wP_f (by decide), cR_n (by decide), h27, if_pos rfl, d1]
          rfl
        · simp only [if_pos (b01_ne.mpr g)]
          refine ⟨s, setN (cR r 0 (Int32.ofNat (cv4 t (lo t i e) i)) (Int32.ofNat (0 + dlR t e))) 27 1, ?_, rfl, fun k hk => ?_, ch.refl _ s⟩
          · rw [wP_f (by decide), show setN (cR r 0 (Int32.ofNat (cv4 t (lo t i e) i)) (Int32.ofNat (0 + dlR t e))) 27 1 27 = 1 from rfl, if_neg (by decide)]
            rfl
          · unfold setN
            rw [if_neg (by omega)]
            exact cR_n (by omega)
/-- a call's word -/
def mCal (t : List Int32) (F : List Fw) (m i e : Nat) : Nat ⊕ St := if nO F = 32 then .inl e else .inr (e + 1, (7, (m, plF 7 0, (sl t i e).map gr), [], []) :: F, [], 1, 0)
set_option maxRecDepth 100000 in
theorem d210c {s : aS} {r : Nat → Int32} {t : List Int32} {e0 i e m : Nat} {F : List Fw} (h : PR s r t e0 F m) (hei : e0 ≤ i) (hie : i ≤ e) (he : e ≤ t.length) : OUT s r (bv (dm187 7 (wP s r e)) fun r54 s53 =>
            bu (dm200 r54 (Int32.ofNat i) 1 s53) fun s57 =>
            if (sI s57 121 33) = 32 then
              bu (dm186 (Int32.ofNat e) s57) fun s61 =>
              some s61
            else
              bu (dm188 7 r54 s57) fun s64 =>
              nx (wI s64 121 33 ((sI s64 121 33) + 1)) fun s65 =>
              nx (wI s65 121 26 ((sI s65 121 26) + 1)) fun s68 =>
              nx (wI s68 121 35 1) fun s71 =>
              nx (wI s71 121 36 1) fun s74 =>
              some s74) (mCal t F m i e) := by
  obtain ⟨m1, c8, hnT⟩ := h.m1
  obtain ⟨hT, hG, hm, h8, het, h27, h35, h36, h34, h147⟩ := h
  have hl := hT.1
  have hfb := hG.fb
  have a3 : r 33 = Int32.ofNat (nO F) := hG.2.2.1.1
  have hO := hG.2.2.1.2
  have a2 : r 32 = Int32.ofNat F.length := hG.2.1
  obtain ⟨s2, d1, d2, d3, d4, d5, d6⟩ := mkK (e := e0) (kd := 7) (g := 1) (hT.set 21 (Int32.ofNat (m + 1)) (by decide)) h8 hei hie he
  rw [kpF1] at d3
  rw [d187 m1 h8]
  simp only [bv_some]
  rw [d1]
  simp only [bu_some]
  rw [wP_f (by decide), show setN r 21 (Int32.ofNat (m + 1)) 33 = r 33 from rfl, a3]
  unfold mCal
  by_cases c : nO F = 32
  · rw [if_pos (show Int32.ofNat (nO F) = 32 by rw [c]; rfl), if_pos c, d186]
    refine ⟨s2, setN (setN r 21 (Int32.ofNat (m + 1))) 27 1, rfl, rfl, fun k hk => ?_, d6.mono fun a k z => newB_scr z⟩
    unfold setN
    rw [if_neg (by omega), if_neg (by omega)]
  · rw [if_neg (show ¬ Int32.ofNat (nO F) = 32 from fun q => c ((neq_iff (b := 32) (by omega) (by omega)).mp q)), if_neg c, d188 (w := F.length) (show setN r 21 (Int32.ofNat (m + 1)) 32 = Int32.ofNat F.length from a2) (by omega)]
    simp only [bu_some, nx_eq]
    rw [wP_f (show (33 : Nat) ≠ 26 by decide), show setN (setN r 21 (Int32.ofNat (m + 1))) 32 (Int32.ofNat (F.length + 1)) 33 = r 33 from rfl, a3, ofNat_succ (n := nO F) (by omega), wP_set (by decide), wP_at, ofNat_succ (n := e) (by omega), wP_go, wP_set (by decide), wP_set (by decide)]
    refine ⟨wI (wI s2 145 F.length 7) 146 F.length (Int32.ofNat m), setN (setN (setN (setN (setN r 21 (Int32.ofNat (m + 1))) 32 (Int32.ofNat (F.length + 1))) 33 (Int32.ofNat (nO F + 1))) 35 1) 36 1, rfl, ?_, h27, rfl, rfl, h34, fun k hk => ?_, ((d6.mono fun a k z => newB_scr z).wI (by unfold scr; omega)).wI (by unfold scr; omega)⟩
    · refine GM.hnd hG hm h8 rfl (Or.inl rfl) rfl (fun _ => by omega) (((d6.mono fun a k z => ?_).wI ?_).wI ?_) (fun q hq => ⟨?_, ?_⟩) ?_ ?_ (fun q hq => ?_) (NR.of (s := s2) ⟨d2, NMe.le (kd := 7) (Or.inr (Or.inr rfl)) d3⟩ ⟨fun w hw => ?_, ?_⟩ (fun q _ => ?_) (show e ≤ e + 1 by omega)) rfl ?_ ?_ (by omega) rfl rfl rfl ?_
      · unfold newB at z
        unfold newA
        omega
      · unfold newA
        omega
      · unfold newA
        omega
      · rw [sI_wI, if_neg (by omega), sI_wI, if_neg (by omega)]
        exact d6.i (by unfold newB; omega)
      · rw [sI_wI, if_neg (by omega), sI_wI, if_neg (by omega)]
        exact d6.i (by unfold newB; omega)
      · rw [sI_wI, if_neg (by omega), sI_wI, if_pos ⟨rfl, rfl⟩]
      · rw [sI_wI, if_pos ⟨rfl, rfl⟩]
      · rw [sI_wI, if_neg (by omega), sI_wI, if_neg (by omega)]
        exact d6.i (by unfold newB; omega)
      · rw [sI_wI, if_neg (by omega), sI_wI, if_neg (by omega)]
      · rw [sI_wI, if_neg (by omega), sI_wI, if_neg (by omega)]
      · rw [sI_wI, if_neg (by omega), sI_wI, if_neg (by omega)]
      · rw [sI_wI, if_neg (by omega), sI_wI, if_neg (by omega)]
        exact d4
      · rw [sI_wI, if_neg (by omega), sI_wI, if_neg (by omega)]
        exact d5
      · show Int32.ofNat (nO F + 1) = Int32.ofNat (nO F + (if (7 : Int32) = 100 ∨ (7 : Int32) = 7 then 1 else 0))
        rw [if_pos (Or.inr rfl)]
    · unfold setN
      rw [if_neg (by omega), if_neg (by omega), if_neg (by omega), if_neg (by omega), if_neg (by omega)]
set_option maxRecDepth 100000 in
/-- truths and names -/
noncomputable def mNam (t : List Int32) (F : List Fw) (m i e : Nat) : Nat ⊕ St := .inr (e, F, [if b01 (e = i + 4 ∧ spQ t trL i 4 0) = 0 then (if b01 (e = i + 5 ∧ spQ t faL i 5 0) = 0 then (m, plF 6 0, (sl t i e).map gr) else (m, setN (plF 3 0) 8 0, [])) else (m, setN (plF 3 0) 8 1, [])], 0, 0)
set_option maxRecDepth 100000 in
theorem d210n {s : aS} {r : Nat → Int32} {t : List Int32} {e0 i e m : Nat} {F : List Fw} (h : PR s r t e0 F m) (hei : e0 ≤ i) (hie : i ≤ e) (he : e ≤ t.length) : OUT s r (bu (dm215 (Int32.ofNat i) (Int32.ofNat e) 1414681925 4 (wP s r e)) fun r84 =>
              bu (dm215 (Int32.ofNat i) (Int32.ofNat e) 301743231813 5 (wP s r e)) fun r87 =>
              if r84 = 0 then
                if r87 = 0 then
                  dm210_161 (Int32.ofNat i) r84 r87 6 (wP s r e)
                else
                  dm210_158 (Int32.ofNat i) r84 r87 (wP s r e)
              else
                dm210_158 (Int32.ofNat i) r84 r87 (wP s r e)) (mNam t F m i e) := by
  obtain ⟨m1, c8, hnT⟩ := h.m1
  obtain ⟨hT, hG, hm, h8, het, h27, h35, h36, h34, h147⟩ := h
  have hl := hT.1
  have bP : aB (Int32.ofNat (1024 + m)) 1152 := aB_of (by omega) (by omega)
  have jP : jN (Int32.ofNat (1024 + m)) = 1024 + m := jN_of (by omega)
  have eP : (1024 : Int32) + Int32.ofNat m = Int32.ofNat (1024 + m) := iSum (i := 1024) (j := m) (by omega) (by omega)
  rw [d215t hT hie he, d215f hT hie he]
  simp only [bu_some]
  unfold mNam dm210_158 dm210_161 dm210_173 dm210_183
  have truth : ∀ v : Int32, OUT s r (some (wP (wI (wI (mkN s m 3) 136 (1024 + m) v) 144 (nT F) (Int32.ofNat m)) (setN (setN r 21 (Int32.ofNat (m + 1))) 29 (Int32.ofNat (nT F + 1))) e)) (.inr (e, F, [(m, setN (plF 3 0) 8 v, [])], 0, 0)) := by
    intro v
    have hc : ch (newB e0 m) s (wI (mkN s m 3) 136 (1024 + m) v) := ((mk_c s m 3).mono fun a k z => by unfold newB; omega).wI (by unfold newB; omega)
    refine ⟨_, _, rfl, ?_, h27, h35, h36, h34, fun k hk => ?_, (hc.mono fun a k z => newB_scr z).wI (by unfold scr; omega)⟩
    · refine GM.leaf2 hG hm h8 rfl hc ⟨fun w hw => ?_, NMe.no (kd := 3) (by decide)⟩ rfl ?_ ?_ (show e0 ≤ e by omega) rfl rfl rfl rfl
      · show sI (wI (mkN s m 3) 136 (1024 + m) v) (128 + w) (1024 + m) = setN (plF 3 0) 8 v w
        rw [sI_wI]
        unfold setN
        by_cases z : w = 8
        · rw [if_pos (by omega), if_pos z]
        · rw [if_neg (by omega), if_neg z]
          exact mk_w (by omega)
      · rw [sI_wI, if_neg (by omega)]
        exact mk_k (Or.inl rfl)
      · rw [sI_wI, if_neg (by omega)]
        exact mk_k (Or.inr (Or.inr rfl))
    · unfold setN
      rw [if_neg (by omega), if_neg (by omega)]
  have e29 : setN r 21 (Int32.ofNat (m + 1)) 29 = Int32.ofNat (nT F) := c8
  by_cases g1 : e = i + 4 ∧ spQ t trL i 4 0
  · simp only [b01_t g1]
    rw [if_neg (by decide), if_neg (by decide), d187 m1 h8]
    simp only [bv_some, eP]
    rw [if_neg (by decide)]
    simp only [if_pos bP, jP, nx_eq]
    rw [wP_wI (by decide), if_neg (by decide), d194 (c := nT F) e29 (by omega)]
    exact truth 1
  · simp only [b01_f g1]
    rw [if_pos trivial, if_pos trivial]
    by_cases g2 : e = i + 5 ∧ spQ t faL i 5 0
    · simp only [b01_t g2]
      rw [if_neg (by decide), if_neg (by decide), d187 m1 h8]
      simp only [bv_some, eP]
      rw [if_pos trivial]
      simp only [if_pos bP, jP, nx_eq]
      rw [wP_wI (by decide), if_pos trivial, if_neg (by decide), d194 (c := nT F) e29 (by omega)]
      exact truth 0
    · simp only [b01_f g2]
      rw [if_pos trivial, if_pos trivial, d187 m1 h8]
      simp only [bv_some, eP]
      rw [if_pos trivial]
      simp only [if_pos bP, jP, nx_eq]
      rw [wP_wI (by decide), if_pos trivial, if_pos trivial]
      have same : wI (mkN s m 6) 136 (1024 + m) 0 = mkN s m 6 := by
        have z : sI (mkN s m 6) 136 (1024 + m) = 0 := mk_w (w := 8) (by decide)
        have : fu (mkN s m 6).2.2.1 136 (1024 + m) 0 = (mkN s m 6).2.2.1 := by
          funext a k
          show (if a = 136 ∧ k = 1024 + m then 0 else (mkN s m 6).2.2.1 a k) = (mkN s m 6).2.2.1 a k
          by_cases q : a = 136 ∧ k = 1024 + m
          · rw [if_pos q, q.1, q.2]
            exact z.symm
          · rw [if_neg q]
        show (((mkN s m 6).1, (mkN s m 6).2.1, fu (mkN s m 6).2.2.1 136 (1024 + m) 0, (mkN s m 6).2.2.2) : aS) = mkN s m 6
        rw [this]
      rw [same]
      obtain ⟨s2, d1, d2, d3, d4, d5, d6⟩ := mkK (e := e0) (kd := 6) (g := 1) (hT.set 21 (Int32.ofNat (m + 1)) (by decide)) h8 hei hie he
      rw [kpF1] at d3
      rw [d1]
      simp only [bu_some]
      rw [d194 (c := nT F) e29 (by omega)]
      refine ⟨wI s2 144 (nT F) (Int32.ofNat m), _, rfl, ?_, h27, h35, h36, h34, fun k hk => ?_, (d6.mono fun a k z => newB_scr z).wI (by unfold scr; omega)⟩
      · exact GM.leaf2 hG hm h8 rfl d6 ⟨d2, NMe.le (kd := 6) (Or.inr (Or.inl rfl)) d3⟩ rfl d4 d5 (show e0 ≤ e by omega) rfl rfl rfl rfl
      · unfold setN
        rw [if_neg (by omega), if_neg (by omega)]
