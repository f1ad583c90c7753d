/-! what a step of reading comes to: a wrong place, or a further state (place, what waits, operand, whether nothing may stand, whether a cell was last) -/
abbrev St : Type := Nat × List Fw × List NN × Int32 × Nat
def OUT (s : aS) (r : Nat → Int32) (D : Option aS) (X : Nat ⊕ St) : Prop := match X with
  | .inl p => ∃ s' r', D = some (wP s' r' p) ∧ r' 27 = 1 ∧ (∀ k, k ≤ 20 → r' k = r k) ∧ ch scr s s'
  | .inr z => ∃ s' r', D = some (wP s' r' z.1) ∧ GM s' r' z.1 z.2.1 z.2.2.1 ∧ r' 27 = 0 ∧ r' 35 = z.2.2.2.1 ∧ r' 36 = (if z.2.2.1.isEmpty = true then 1 else 0) ∧ r' 34 = (if z.2.2.2.2 = 1 then Int32.ofNat (hdI z.2.2.1) else -1) ∧ (∀ k, k ≤ 20 → r' k = r k) ∧ ch scr s s'
/-- what is so while an operand is read -/
def PR (s : aS) (r : Nat → Int32) (t : List Int32) (e : Nat) (F : List Fw) (m : Nat) : Prop := TX s r t ∧ GM s r e F [] ∧ (fl F).length = m ∧ m < 128 ∧ e ≤ t.length ∧ r 27 = 0 ∧ r 35 = 0 ∧ r 36 = 0 ∧ r 34 = -1 ∧ (sT s 147).2 = 256
set_option maxRecDepth 100000 in
theorem qt_sl {t : List Int32} : ∀ (m i : Nat) (u : List Int32) (e : Nat), qtG t 34 m i = some (u, e) → i < e ∧ e ≤ t.length ∧ sl t i e = dbl u ++ [34]
  | 0, i, u, e, h => by cases h
  | m + 1, i, u, e, h => by
    rw [qtG] at h
    by_cases c1 : t.length ≤ i
    · rw [if_pos c1] at h; cases h
    · rw [if_neg c1] at h
      by_cases c2 : t.getD i 0 = 34
      · rw [if_pos c2] at h
        by_cases c3 : t.getD (i + 1) 0 = 34
        · rw [if_pos c3] at h
          cases q : qtG t 34 m (i + 2) with
          | none => rw [q] at h; cases h
          | some p =>
            rw [q] at h
            have h : some (34 :: p.1, p.2) = some (u, e) := h
            cases h
            obtain ⟨a1, a2, a3⟩ := qt_sl m (i + 2) p.1 p.2 q
            refine ⟨by omega, a2, ?_⟩
            rw [sl_c (by omega) a2, sl_c (by omega) a2, c2, c3, a3]
            show _ = (if (34 : Int32) = 34 then 34 :: 34 :: dbl p.1 else 34 :: dbl p.1) ++ [34]
            rw [if_pos rfl]
            rfl
        · rw [if_neg c3] at h
          cases h
          refine ⟨by omega, by omega, ?_⟩
          rw [sl_c (by omega) (by omega), sl_n, c2]
          rfl
      · rw [if_neg c2] at h
        cases q : qtG t 34 m (i + 1) with
        | none => rw [q] at h; cases h
        | some p =>
          rw [q] at h
          have h : some (t.getD i 0 :: p.1, p.2) = some (u, e) := h
          cases h
          obtain ⟨a1, a2, a3⟩ := qt_sl m (i + 1) p.1 p.2 q
          refine ⟨by omega, a2, ?_⟩
          rw [sl_c (by omega) a2, a3]
          show _ = (if t.getD i 0 = 34 then 34 :: 34 :: dbl p.1 else t.getD i 0 :: dbl p.1) ++ [34]
          rw [if_neg c2]
          rfl
set_option maxRecDepth 100000 in
theorem scr147 {s s' : aS} (h : ch (fun a _ => a = 147) s s') : ch scr s s' := h.mono fun a k z => by unfold scr; omega
set_option maxRecDepth 100000 in
theorem PR.m1 {s : aS} {r : Nat → Int32} {t : List Int32} {e m : Nat} {F : List Fw} (h : PR s r t e F m) : r 21 = Int32.ofNat m ∧ r 29 = Int32.ofNat (nT F) ∧ nT F ≤ 128 := by
  obtain ⟨h1, hG, hm, -⟩ := h
  refine ⟨?_, ?_, hG.fb.2.1⟩
  · have := hG.1.1
    rw [List.append_nil, hm] at this
    exact this
  · rcases hG.2.2.2.2.2.2.2 with ⟨-, q⟩ | ⟨c, q, -⟩
    · exact q
    · have q : ([c] : List Nat) = [] := q
      cases q
set_option maxRecDepth 100000 in
/-- a text -/
theorem d201 {s : aS} {r : Nat → Int32} {t : List Int32} {e i m : Nat} {F : List Fw} (h : PR s r t e F m) (hei : e ≤ i) (hi : i < t.length) (hc : t.getD i 0 = 34) : OUT s r (dm201 (wP s r i)) (match qtA t 34 i with
    | none => .inl t.length
    | some (u, e2) => .inr (e2, F, [(m, plF 1 0, u)], 0, 0)) := by
  obtain ⟨m1, c8, hnT⟩ := h.m1
  obtain ⟨hT, hG, hm, h8, het, h27, h35, h36, h34, h147⟩ := h
  unfold dm201
  rw [wP_at]
  rcases d202 (q := 34) (by decide) hT h147 hi with ⟨a1, s1, v, a2, a3⟩ | ⟨u, e2, s1, a1, a2, a3, a4, a5, a6⟩
  · rw [a1]
    refine ⟨s1, setN (setN r 38 v) 27 1, ?_, rfl, fun k hk => ?_, scr147 a3⟩
    · rw [a2]
      simp only [bu_some]
      rw [wP_f (by decide), show setN (setN r 38 v) 27 1 27 = 1 from rfl, if_neg (by decide)]
    · unfold setN
      rw [if_neg (by omega), if_neg (by omega)]
  · rw [a1]
    obtain ⟨b1, b2, b3⟩ := qt_sl 300 (i + 1) u e2 a1
    have hsl : sl t i e2 = 34 :: (dbl u ++ [34]) := by rw [sl_c (by omega) b2, hc, b3]
    have hT1 : TX s1 (setN (setN r 38 (Int32.ofNat u.length)) 21 (Int32.ofNat (m + 1))) t := (((hT.fr a6 (fun k => by decide)).set 38 _ (by decide)).set 21 _ (by decide))
    obtain ⟨s2, d1, d2, d3, d4, d5, d6⟩ := mkK (e := e) (kd := 1) (g := 0) hT1 h8 hei (by omega) b2
    rw [kpF0, hsl] at d3
    have hcs : ch (newB e m) s s2 := (a6.mono fun a k z => by unfold newB; omega).trans d6
    refine ⟨wI s2 144 (nT F) (Int32.ofNat m), setN (setN (setN r 38 (Int32.ofNat u.length)) 21 (Int32.ofNat (m + 1))) 29 (Int32.ofNat (nT F + 1)), ?_, ?_, h27, h35, h36, h34, fun k hk => ?_, (hcs.mono fun a k z => newB_scr z).wI (by unfold scr; omega)⟩
    · rw [a4]
      simp only [bu_some]
      rw [wP_f (by decide), show setN r 38 (Int32.ofNat u.length) 27 = r 27 from rfl, h27, if_pos rfl, d187 (m := m) (show setN r 38 (Int32.ofNat u.length) 21 = Int32.ofNat m from m1) h8]
      simp only [bv_some]
      rw [d1]
      simp only [bu_some]
      rw [d194 (c := nT F) (show setN (setN r 38 (Int32.ofNat u.length)) 21 (Int32.ofNat (m + 1)) 29 = Int32.ofNat (nT F) from c8) (by omega)]
      rfl
    · refine GM.leaf2 hG hm h8 rfl hcs ⟨d2, fun q => ?_, fun _ => d3, fun q => ?_⟩ rfl d4 d5 (by omega) rfl rfl rfl rfl
      · have q : (1 : Int32) = 0 ∨ (1 : Int32) = 6 ∨ (1 : Int32) = 7 := q
        exact absurd q (by decide)
      · have q : ¬ ((1 : Int32) = 0 ∨ (1 : Int32) = 1 ∨ (1 : Int32) = 6 ∨ (1 : Int32) = 7) := q
        exact absurd (by decide) q
    · unfold setN
      rw [if_neg (by omega), if_neg (by omega), if_neg (by omega)]
set_option maxRecDepth 100000 in
/-- a cell that must come at place j -/
noncomputable def mCell (t : List Int32) (F : List Fw) (m : Nat) (x : Int32) (j : Nat) : Nat ⊕ St := if b01 (cOk t j) = 0 then .inl (cB t j) else .inr (cE t j, F, [(m, clD x (Int32.ofNat (cW t j)) (Int32.ofNat (cK t j).2.1) (Int32.ofNat (cFl t j)), [])], 0, 1)
set_option maxRecDepth 100000 in
theorem OUT.c {s s1 : aS} {r r1 : Nat → Int32} {D D' : Option aS} {X : Nat ⊕ St} (h : OUT s1 r1 D X) (hc : ch scr s s1) (hr : ∀ k, k ≤ 20 → r1 k = r k) (hD : D' = D) : OUT s r D' X := by
  subst hD
  cases X with
  | inl p =>
    obtain ⟨s', r', a1, a2, a3, a4⟩ := h
    exact ⟨s', r', a1, a2, fun k hk => (a3 k hk).trans (hr k hk), hc.trans a4⟩
  | inr z =>
    obtain ⟨s', r', a1, a2, a3, a4, a5, a6, a7, a8⟩ := h
    exact ⟨s', r', a1, a2, a3, a4, a5, a6, fun k hk => (a7 k hk).trans (hr k hk), hc.trans a8⟩
set_option maxRecDepth 100000 in
theorem d207c {s : aS} {r : Nat → Int32} {t : List Int32} {e j m : Nat} {F : List Fw} {x : Int32} {K : aS → Option aS} (h : PR s r t e F m) (hej : e ≤ j) (hj : j ≤ t.length) (hK : ∀ s1 r1 i1, r1 27 = 0 → K (wP s1 r1 i1) = bu (dm209 x (wP s1 r1 i1)) some) (hK1 : ∀ s1 r1 i1, r1 27 = 1 → K (wP s1 r1 i1) = some (wP s1 r1 i1)) : OUT s r (bu (dm207 (wP s r j)) K) (mCell t F m x j) := by
  obtain ⟨hT, hG, hm, h8, het, h27, h35, h36, h34, h147⟩ := h
  unfold mCell
  rcases d207 hT hj with ⟨g, c, f, q⟩ | ⟨g, q⟩
  · rw [if_pos (b01_ne.mpr g)]
    refine ⟨s, setN (cR r 0 c f) 27 1, ?_, rfl, fun k hk => ?_, ch.refl _ s⟩
    · rw [q]
      simp only [bu_some]
      rw [hK1 _ _ _ rfl]
    · unfold setN
      rw [if_neg (by omega)]
      exact cR_n (by omega)
  · rw [if_neg (fun z => b01_ne.mp z g)]
    obtain ⟨o1, o2, o3, o4, o5⟩ := cOk_b hj g
    have hG2 : GM s (cR r (Int32.ofNat (cW t j)) (Int32.ofNat (cK t j).2.1) (Int32.ofNat (cFl t j))) e F [] := hG.at (Nat.le_refl _) (cR_n (by decide)) (cR_n (by decide)) (cR_n (by decide)) (cR_n (by decide))
    obtain ⟨s', r', d1, d2, d3, d4, d5⟩ := d209 (x := x) (b := cE t j) hG2 hm h8 (by omega)
    refine ⟨s', r', ?_, d2, (d4 27 (by decide) (by decide) (by decide)).trans ((cR_n (by decide)).trans h27), (d4 35 (by decide) (by decide) (by decide)).trans ((cR_n (by decide)).trans h35), (d4 36 (by decide) (by decide) (by decide)).trans ((cR_n (by decide)).trans h36), d3, fun k hk => (d4 k (by omega) (by omega) (by omega)).trans (cR_n (by omega)), d5⟩
    rw [q]
    simp only [bu_some]
    rw [hK _ _ _ ((cR_n (by decide)).trans h27), d1]
    rfl
