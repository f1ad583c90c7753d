/-! the reader of FormulaTrees, exactly: references and ranges read, operands -/
section XX
variable {s s1 : aS} {b i : Nat} {t : List Int32} {ns : List (List Int32)} {F : List Fw} {cur M : List NN} {fr : Int32} {lc : Nat}
set_option maxRecDepth 100000 in
theorem cEnds {j e : Nat} (hj : j ≤ t.length) (h : (e = (cK t j).2.2 ∧ ((cK t j).1 = 0 ∨ isL (t.getD (cK t j).2.2 0))) ∨ e = cJ t j ∨ (e = cE t j ∧ rowB t (cJ t j))) : e ≤ t.length := by
  have hKb := cK_b (t := t) hj
  have hJb : cJ t j ≤ t.length := (dlR_b (t := t) (i := (cK t j).2.2) hKb.2.2.2.1).1
  have hE : cE t j ≤ t.length := (rwG_b (t := t) 300 (cJ t j) 0 hJb (by omega)).2.2.2
  rcases h with ⟨q, -⟩ | q | ⟨q, -⟩ <;> omega
set_option maxRecDepth 100000 in
/-- a reference -/
theorem x88 {j : Nat} {x : Int32} (h : XR s b t ns j F x) (hj : j ≤ t.length) : ∃ s', dm88 s = some s' ∧ ((sI s' 106 8 ≠ -1 ∧ ((flC F).length = 128 ∨ ¬ cOk t j ∨ bad (t.getD (cE t j) 0))) ∨ ((flC F).length < 128 ∧ cOk t j ∧ ¬ bad (t.getD (cE t j) 0) ∧ XI s' b t ns (cE t j) F [((fl F).length, clD x (Int32.ofNat (cW t j)) (Int32.ofNat (cK t j).2.1) (Int32.ofNat (cFl t j)), [])] 0 1)) := by
  obtain ⟨K, T, B, h7, h8, h9, ⟨f, hf, h11⟩, h12⟩ := h
  have hl := K.1.2.1
  have hb := xb K
  obtain ⟨v, s2, a1, a2, a3⟩ := x89 (j := j) K hj
  have K2 := K.of (b := b) (a2.mono fun a k z => a9C z)
  have T2 := trM T hb a2 (fun a k z => by unfold a9 at z; omega)
  have B2 := B.of a2 (fun a k z => by unfold a9 at z; omega)
  unfold dm88
  rw [h7, a1]
  simp only [bv_some]
  rcases a3 with ⟨c1, c2, c3, c4, c5, c6, c7⟩ | ⟨c1, c2, e, c3, c4⟩
  · rw [if_neg (by rw [c1]; decide), show sI s2 106 11 = Int32.ofNat f from (a2.i (by unfold a9; omega)).trans h11]
    rcases x70 K2 T2 (Int32.ofNat f) with ⟨d1, d2⟩ | ⟨d1, d2⟩
    · rw [d2]
      simp only [bv_some]
      rw [if_neg (by decide), (xtr K2).1, if_pos (xk K2)]
      unfold dm94
      simp only [bu_some]
      rw [(xtr K2).1, if_pos (xk K2), T2.1]
      have T20 : TR s2 b j (flC F ++ []) := by rw [List.append_nil]; exact T2
      obtain ⟨s3, e1, e2, e3⟩ := x72 (q := (fl F).length) (kd := 4) (c := 0) T20 (by rw [List.append_nil]; exact d1)
      rw [e1]
      simp only [bu_some]
      have K3 := K2.of (b := b) (e3.mono fun a k z => by unfold AC; omega)
      have p0 : ∀ k, sI s3 109 k = sI s2 109 k := fun k => e3.i (by omega)
      have x12 : sI s3 106 12 = x := by rw [e3.i (by omega), a2.i (by unfold a9; omega)]; exact h12
      rw [(xtr K3).1, if_pos (xk K3), x12]
      -- the puts, one after the other
      have put : ∀ (w : Nat) (v : Int32) (s4 : aS) (d : Nd), w < 9 → KS s4 b t ns → TR s4 b j (flC F ++ [((fl F).length, d, [])]) → dm60 b (Int32.ofNat (flC F).length) (Int32.ofNat w) v s4 = some (wI s4 (b + 1) (11 * (flC F).length + w) v) ∧ KS (wI s4 (b + 1) (11 * (flC F).length + w) v) b t ns ∧ TR (wI s4 (b + 1) (11 * (flC F).length + w) v) b j (flC F ++ [((fl F).length, setN d w v, [])]) := by
        intro w v s4 d hw K4 T4
        have g : ch (fun a _ => a = b + 1) s4 (wI s4 (b + 1) (11 * (flC F).length + w) v) := (ch.refl _ s4).wI rfl
        exact ⟨x60 T4 (by omega), K4.of (b := b) (g.mono fun a k z => by unfold AC; omega), T4.set hw⟩
      obtain ⟨f1, f2, f3⟩ := put 2 x s3 _ (by omega) K3 e2
      have f1 : dm60 b (Int32.ofNat (flC F).length) 2 x s3 = some (wI s3 (b + 1) (11 * (flC F).length + 2) x) := f1
      rw [f1]
      simp only [bu_some]
      rw [(xtr f2).1, if_pos (xk f2)]
      unfold dm95 dm96 dm97 dm98
      simp only [bu_some]
      have r9 : ∀ (s4 : aS) (k q : Nat) (v : Int32), sI (wI s4 (b + 1) q v) 109 k = sI s4 109 k := fun s4 k q v => by rw [sI_wI, if_neg (by omega)]
      have w1 : sI s3 109 1 = Int32.ofNat (cW t j) := (p0 1).trans c5
      have w2 : sI s3 109 2 = Int32.ofNat (cK t j).2.1 := (p0 2).trans c6
      have w3 : sI s3 109 3 = Int32.ofNat (cFl t j) := (p0 3).trans c7
      have w0 : sI s3 109 0 = Int32.ofNat (cE t j) := (p0 0).trans c4
      simp only [r9, w1]
      obtain ⟨g1, g2, g3⟩ := put 3 (Int32.ofNat (cW t j)) _ _ (by omega) f2 f3
      have g1 : dm60 b (Int32.ofNat (flC F).length) 3 (Int32.ofNat (cW t j)) (wI s3 (b + 1) (11 * (flC F).length + 2) x) = _ := g1
      rw [g1]
      simp only [bu_some, r9, w2]
      obtain ⟨i1, i2, i3⟩ := put 4 (Int32.ofNat (cK t j).2.1) _ _ (by omega) g2 g3
      have i1 : dm60 b (Int32.ofNat (flC F).length) 4 (Int32.ofNat (cK t j).2.1) (wI (wI s3 (b + 1) (11 * (flC F).length + 2) x) (b + 1) (11 * (flC F).length + 3) (Int32.ofNat (cW t j))) = _ := i1
      rw [i1]
      simp only [bu_some, r9, w1]
      obtain ⟨j1, j2, j3⟩ := put 5 (Int32.ofNat (cW t j)) _ _ (by omega) i2 i3
      have j1 : dm60 b (Int32.ofNat (flC F).length) 5 (Int32.ofNat (cW t j)) (wI (wI (wI s3 (b + 1) (11 * (flC F).length + 2) x) (b + 1) (11 * (flC F).length + 3) (Int32.ofNat (cW t j))) (b + 1) (11 * (flC F).length + 4) (Int32.ofNat (cK t j).2.1)) = _ := j1
      rw [j1]
      simp only [bu_some, r9, w2]
      obtain ⟨k1, k2, k3⟩ := put 6 (Int32.ofNat (cK t j).2.1) _ _ (by omega) j2 j3
      have k1 : dm60 b (Int32.ofNat (flC F).length) 6 (Int32.ofNat (cK t j).2.1) (wI (wI (wI (wI s3 (b + 1) (11 * (flC F).length + 2) x) (b + 1) (11 * (flC F).length + 3) (Int32.ofNat (cW t j))) (b + 1) (11 * (flC F).length + 4) (Int32.ofNat (cK t j).2.1)) (b + 1) (11 * (flC F).length + 5) (Int32.ofNat (cW t j))) = _ := k1
      rw [k1]
      simp only [bu_some, r9, w3]
      obtain ⟨l1, l2, l3⟩ := put 7 (Int32.ofNat (cFl t j)) _ _ (by omega) k2 k3
      have l1 : dm60 b (Int32.ofNat (flC F).length) 7 (Int32.ofNat (cFl t j)) (wI (wI (wI (wI (wI s3 (b + 1) (11 * (flC F).length + 2) x) (b + 1) (11 * (flC F).length + 3) (Int32.ofNat (cW t j))) (b + 1) (11 * (flC F).length + 4) (Int32.ofNat (cK t j).2.1)) (b + 1) (11 * (flC F).length + 5) (Int32.ofNat (cW t j))) (b + 1) (11 * (flC F).length + 6) (Int32.ofNat (cK t j).2.1)) = _ := l1
      rw [l1]
      simp only [bu_some]
      unfold dm81 dm93
      simp only [bu_some, nx_eq]
      generalize hs6 : wI (wI (wI (wI (wI (wI s3 (b + 1) (11 * (flC F).length + 2) x) (b + 1) (11 * (flC F).length + 3) (Int32.ofNat (cW t j))) (b + 1) (11 * (flC F).length + 4) (Int32.ofNat (cK t j).2.1)) (b + 1) (11 * (flC F).length + 5) (Int32.ofNat (cW t j))) (b + 1) (11 * (flC F).length + 6) (Int32.ofNat (cK t j).2.1)) (b + 1) (11 * (flC F).length + 7) (Int32.ofNat (cFl t j)) = s6 at l2 l3 ⊢
      have g6 : ch (fun a _ => a = b + 1) s3 s6 := by
        rw [← hs6]
        exact ((((((ch.refl (fun a _ => a = b + 1) s3).wI rfl).wI rfl).wI rfl).wI rfl).wI rfl).wI rfl
      have e0 : sI (wI (wI (wI s6 106 10 (Int32.ofNat (flC F).length)) 106 9 4) 106 9 5) 109 0 = Int32.ofNat (cE t j) := by
        rw [sI_wI, if_neg (by omega), sI_wI, if_neg (by omega), sI_wI, if_neg (by omega), g6.i (by omega)]
        exact w0
      rw [e0]
      have g7 : ch (fun a k => a = 106 ∧ (k = 7 ∨ k = 9 ∨ k = 10)) s6 (wI (wI (wI (wI s6 106 10 (Int32.ofNat (flC F).length)) 106 9 4) 106 9 5) 106 7 (Int32.ofNat (cE t j))) := ((((ch.refl _ s6).wI (by omega)).wI (by omega)).wI (by omega)).wI (by omega)
      have hEb := (cOk_b hj c2).2.2.2
      refine ⟨_, rfl, Or.inr ⟨d1, c2, c3, l2.of (b := b) (g7.mono fun a k z => by unfold AC; omega), (trM l3 hb g7 (fun a k z => by omega)).up (by omega), ((B2.of e3 (fun a k z => by omega)).of g6 (fun a k z => by omega)).of g7 (fun a k z => by omega), by rw [sI_wI, if_pos ⟨rfl, rfl⟩], ?_, ?_, fun _ => ?_⟩⟩
      · rw [g7.i (by omega), g6.i (by omega), e3.i (by omega), a2.i (by unfold a9; omega)]
        exact h8
      · rw [sI_wI, if_neg (by omega), sI_wI, if_pos ⟨rfl, rfl⟩]
        rfl
      · rw [sI_wI, if_neg (by omega), sI_wI, if_neg (by omega), sI_wI, if_neg (by omega), sI_wI, if_pos ⟨rfl, rfl⟩]
    · rw [d2]
      simp only [bv_some]
      rw [if_pos trivial]
      exact ⟨_, rfl, Or.inl ⟨by rw [sI_wI, if_pos ⟨rfl, rfl⟩]; exact nm1 (by omega), Or.inl d1⟩⟩
  · rw [if_pos c1]
    unfold dm93
    simp only [bu_some, nx_eq]
    have he := cEnds hj c4
    rw [c3]
    exact ⟨_, rfl, Or.inl ⟨by rw [sI_wI, if_pos ⟨rfl, rfl⟩]; exact nm1 (by omega), Or.inr c2⟩⟩
set_option maxRecDepth 100000 in
theorem or_p : ∀ a c : Nat, a < 4 → c < 4 → Int32.ofNat a + Int32.ofNat c * 4 = (Int32.ofNat a ||| (Int32.ofNat c <<< ((2 : Int32) &&& 31))) ∧ 0 ≤ (Int32.ofNat a + Int32.ofNat c * 4).toInt ∧ (Int32.ofNat a + Int32.ofNat c * 4).toInt ≤ 15 := by
  have : ∀ a ∈ List.range 4, ∀ c ∈ List.range 4, Int32.ofNat a + Int32.ofNat c * 4 = (Int32.ofNat a ||| (Int32.ofNat c <<< ((2 : Int32) &&& 31))) ∧ 0 ≤ (Int32.ofNat a + Int32.ofNat c * 4).toInt ∧ (Int32.ofNat a + Int32.ofNat c * 4).toInt ≤ 15 := by decide
  exact fun a c ha hc => this a (List.mem_range.mpr ha) c (List.mem_range.mpr hc)
set_option maxRecDepth 100000 in
/-- a node as a whole becomes another -/
theorem TR.nd {z : Nat} {C B : List NN} {n : NN} {d : Nd} (h : TR s b z (C ++ n :: B)) (g : ch (fun a q => a = b + 1 ∧ 11 * C.length ≤ q ∧ q < 11 * C.length + 9) s s1) (hd : CR s1 b C.length d) : TR s1 b z (C ++ (n.1, d, n.2.2) :: B) := by
  obtain ⟨a1, a2, u, a3, a4, a5⟩ := h
  have el : (C ++ (n.1, d, n.2.2) :: B).length = (C ++ n :: B).length := by rw [List.length_append, List.length_append, List.length_cons, List.length_cons]
  refine ⟨by rw [el, g.i (by omega)]; exact a1, by rw [el]; exact a2, u, a3.of g (by omega) (fun k => by omega), a4, fun k m hk => ?_⟩
  by_cases e : k = C.length
  · subst e
    rw [mid_m] at hk
    cases hk
    obtain ⟨r0, st, r1, r2, r3, r4⟩ := a5 C.length n mid_m
    exact ⟨hd, st, (g.i (by omega)).trans r1, (g.i (by omega)).trans r2, r3, r4⟩
  · rw [mid_s (y := n) e] at hk
    obtain ⟨r0, st, r1, r2, r3, r4⟩ := a5 k m hk
    exact ⟨fun j hj => (g.i (by omega)).trans (r0 j hj), st, (g.i (by omega)).trans r1, (g.i (by omega)).trans r2, r3, r4⟩
set_option maxRecDepth 100000 in
/-- the other end of a range -/
theorem x99 {j : Nat} {n : NN} (h : XG s b t ns j F [n]) (hj : j ≤ t.length) (h4 : n.2.1 0 = 4) (hn : n.2.2 = []) (h7n : 0 ≤ (n.2.1 7).toInt ∧ (n.2.1 7).toInt ≤ 3) : ∃ s', dm99 s = some s' ∧ ((sI s' 106 8 ≠ -1 ∧ (¬ cOk t j ∨ bad (t.getD (cE t j) 0))) ∨ (cOk t j ∧ ¬ bad (t.getD (cE t j) 0) ∧ XI s' b t ns (cE t j) F [rgN n (Int32.ofNat (cW t j)) (Int32.ofNat (cK t j).2.1) (Int32.ofNat (cFl t j))] 0 0)) := by
  obtain ⟨K, T, B, h7, h8, h9, h10⟩ := h
  have hl := K.1.2.1
  have hb := xb K
  obtain ⟨v, s2, a1, a2, a3⟩ := x89 (j := j) K hj
  have K2 := K.of (b := b) (a2.mono fun a k z => a9C z)
  have T2 := trM T hb a2 (fun a k z => by unfold a9 at z; omega)
  have B2 := B.of a2 (fun a k z => by unfold a9 at z; omega)
  unfold dm99
  rw [h7, a1]
  simp only [bv_some]
  rcases a3 with ⟨c1, c2, c3, c4, c5, c6, c7⟩ | ⟨c1, c2, e, c3, c4⟩
  · have hEb := (cOk_b hj c2).2.2
    rw [if_neg (by rw [c1]; decide), (xtr K2).1, if_pos (xk K2), show sI s2 106 10 = Int32.ofNat (flC F).length from (a2.i (by unfold a9; omega)).trans h10]
    have put : ∀ (w : Nat) (v : Int32) (s4 : aS) (m : NN), w < 9 → TR s4 b j (flC F ++ [m]) → dm60 b (Int32.ofNat (flC F).length) (Int32.ofNat w) v s4 = some (wI s4 (b + 1) (11 * (flC F).length + w) v) ∧ TR (wI s4 (b + 1) (11 * (flC F).length + w) v) b j (flC F ++ [(m.1, setN m.2.1 w v, m.2.2)]) := fun w v s4 m hw T4 => ⟨x60 T4 (by omega), T4.set hw⟩
    have r9 : ∀ (s4 : aS) (k q : Nat) (v : Int32), sI (wI s4 (b + 1) q v) 109 k = sI s4 109 k := fun s4 k q v => by rw [sI_wI, if_neg (by omega)]
    unfold dm100 dm96 dm97 dm98
    simp only [bu_some]
    obtain ⟨f1, f2⟩ := put 0 5 s2 n (by omega) T2
    have f1 : dm60 b (Int32.ofNat (flC F).length) 0 5 s2 = _ := f1
    rw [f1]
    simp only [bu_some, r9, c5]
    obtain ⟨g1, g2⟩ := put 5 (Int32.ofNat (cW t j)) _ _ (by omega) f2
    have g1 : dm60 b (Int32.ofNat (flC F).length) 5 (Int32.ofNat (cW t j)) (wI s2 (b + 1) (11 * (flC F).length + 0) 5) = _ := g1
    rw [g1]
    simp only [bu_some, r9, c6]
    obtain ⟨i1, i2⟩ := put 6 (Int32.ofNat (cK t j).2.1) _ _ (by omega) g2
    have i1 : dm60 b (Int32.ofNat (flC F).length) 6 (Int32.ofNat (cK t j).2.1) (wI (wI s2 (b + 1) (11 * (flC F).length + 0) 5) (b + 1) (11 * (flC F).length + 5) (Int32.ofNat (cW t j))) = _ := i1
    rw [i1]
    simp only [bu_some, r9, c7]
    have q7 := x57 (w := 7) i2 (by omega)
    have q7 : dm57 b (Int32.ofNat (flC F).length) 7 (wI (wI (wI s2 (b + 1) (11 * (flC F).length + 0) 5) (b + 1) (11 * (flC F).length + 5) (Int32.ofNat (cW t j))) (b + 1) (11 * (flC F).length + 6) (Int32.ofNat (cK t j).2.1)) = some (n.2.1 7) := q7
    rw [q7]
    simp only [bu_some]
    obtain ⟨a, ha⟩ : ∃ a, a = (n.2.1 7).toInt.toNat := ⟨_, rfl⟩
    have e7 : n.2.1 7 = Int32.ofNat a := by rw [ha]; exact ofNat_of h7n.1
    obtain ⟨y1, y2⟩ := or_p a (cFl t j) (by omega) (by omega)
    rw [e7]
    obtain ⟨j1, j2⟩ := put 7 (Int32.ofNat a + Int32.ofNat (cFl t j) * 4) _ _ (by omega) i2
    have j1 : dm60 b (Int32.ofNat (flC F).length) 7 (Int32.ofNat a + Int32.ofNat (cFl t j) * 4) (wI (wI (wI s2 (b + 1) (11 * (flC F).length + 0) 5) (b + 1) (11 * (flC F).length + 5) (Int32.ofNat (cW t j))) (b + 1) (11 * (flC F).length + 6) (Int32.ofNat (cK t j).2.1)) = _ := j1
    rw [j1]
    simp only [bu_some]
    generalize hs6 : wI (wI (wI (wI s2 (b + 1) (11 * (flC F).length + 0) 5) (b + 1) (11 * (flC F).length + 5) (Int32.ofNat (cW t j))) (b + 1) (11 * (flC F).length + 6) (Int32.ofNat (cK t j).2.1)) (b + 1) (11 * (flC F).length + 7) (Int32.ofNat a + Int32.ofNat (cFl t j) * 4) = s6 at j2 ⊢
    have g6 : ch (fun a _ => a = b + 1) s2 s6 := by
      rw [← hs6]
      exact ((((ch.refl (fun a _ => a = b + 1) s2).wI rfl).wI rfl).wI rfl).wI rfl
    have hrow : CR s6 b (flC F).length (setN (setN (setN (setN n.2.1 0 5) 5 (Int32.ofNat (cW t j))) 6 (Int32.ofNat (cK t j).2.1)) 7 (Int32.ofNat a + Int32.ofNat (cFl t j) * 4)) := by
      obtain ⟨-, -, u, -, -, a5⟩ := j2
      exact (a5 (flC F).length _ mid_m).1
    obtain ⟨s7, k1, k2, k3⟩ := d101x j2.1 j2.2.1 mid_len hrow
    rw [k1]
    simp only [bu_some]
    have T7 := j2.nd k3 k2
    have g7 : ch (fun a _ => a = b + 1) s2 s7 := g6.trans (k3.mono fun a k z => z.1)
    have w0 : sI (wI s7 106 9 4) 109 0 = Int32.ofNat (cE t j) := by
      rw [sI_wI, if_neg (by omega), g7.i (by omega)]
      exact c4
    unfold dm93
    simp only [bu_some, nx_eq]
    rw [w0]
    have g8 : ch (fun a k => a = 106 ∧ (k = 7 ∨ k = 9)) s7 (wI (wI s7 106 9 4) 106 7 (Int32.ofNat (cE t j))) := ((ch.refl _ s7).wI (by omega)).wI (by omega)
    refine ⟨_, rfl, Or.inr ⟨c2, c3, ?_, ?_, ((B2.of g7 (fun a k z => by omega)).of g8 (fun a k z => by omega)), by rw [sI_wI, if_pos ⟨rfl, rfl⟩], ?_, by rw [sI_wI, if_neg (by omega), sI_wI, if_pos ⟨rfl, rfl⟩]; rfl, fun _ => ?_⟩⟩
    · exact K2.of (b := b) ((g7.mono fun a k z => by unfold AC; omega).trans (g8.mono fun a k z => by unfold AC; omega))
    · have e9 : rgN n (Int32.ofNat (cW t j)) (Int32.ofNat (cK t j).2.1) (Int32.ofNat (cFl t j)) = (n.1, orC (orR (setN (setN (setN (setN n.2.1 0 5) 5 (Int32.ofNat (cW t j))) 6 (Int32.ofNat (cK t j).2.1)) 7 (Int32.ofNat a + Int32.ofNat (cFl t j) * 4))), n.2.2) := by
        unfold rgN
        rw [or_eq (by rw [setN_s]; exact y2), hn, e7, y1]
      rw [e9]
      exact (trM T7 hb g8 (fun a k z => by omega)).up (by omega)
    · rw [g8.i (by omega), g7.i (by omega), a2.i (by unfold a9; omega)]
      exact h8
    · rw [g8.i (by omega), g7.i (by omega), a2.i (by unfold a9; omega)]
      exact h10
  · rw [if_pos c1]
    unfold dm93
    simp only [bu_some, nx_eq]
    have he := cEnds hj c4
    rw [c3]
    exact ⟨_, rfl, Or.inl ⟨by rw [sI_wI, if_pos ⟨rfl, rfl⟩]; exact nm1 (by omega), c2⟩⟩
set_option maxRecDepth 100000 in
/-- a minus before -/
theorem x118 (h : XI s b t ns i F [] fr 0) (hi : i < t.length) : OC b t ns F i (if (fl F).length = 128 then .inl i else .inr (i + 1, (10, ((fl F).length, plF 10 0, []), [], []) :: F, [], 0, 0)) (dm118 s) := by
  have hl := h.1.1.2.1
  have hb := xb h.1
  have T := h.tr
  have hfl := flC_len F
  unfold dm118
  rcases x70 h.1 T (sI s 106 7) with ⟨c8, e70⟩ | ⟨c8, e70⟩
  · have hp := pO_len F
    obtain ⟨s2, a1, a2, a3⟩ := x87 (x := 6) (y := (flC F).length) h.2.2.1 (by omega)
    have K2 := h.1.of (b := b) (a3.mono fun a k z => by unfold AC; omega)
    have T2 := trM T hb a3 (fun a k z => by omega)
    have T20 : TR s2 b i (flC F ++ []) := by rw [List.append_nil]; exact T2
    obtain ⟨s3, b1, b2, b3⟩ := x72 (q := (fl F).length) (kd := 10) (c := 1) T20 (by rw [List.append_nil]; exact c8)
    rw [e70]
    simp only [bv_some]
    rw [if_neg (show ¬ (1 : Int32) = 0 by decide), (xtr h.1).1, if_pos (xk h.1)]
    unfold dm94
    simp only [bu_some]
    rw [T.1, a1]
    simp only [bu_some]
    rw [(xtr K2).1, if_pos (xk K2), (xtr K2).1, if_pos (xk K2), T2.1, b1]
    simp only [bu_some, nx_eq]
    have e7 : sI (wI s3 106 9 1) 106 7 = Int32.ofNat i := by
      rw [sI_wI, if_neg (by omega), b3.i (by omega), a3.i (by omega)]
      exact h.2.2.2.1
    rw [e7, ofNat_succ (by omega), if_neg (show ¬ (fl F).length = 128 by omega)]
    have g : ch (fun a k => a = 106 ∧ (k = 7 ∨ k = 9)) s3 (wI (wI s3 106 9 1) 106 7 (Int32.ofNat (i + 1))) := ((ch.refl _ s3).wI (by omega)).wI (by omega)
    refine ⟨_, rfl, Or.inr (Or.inl ⟨_, rfl, h.1.of (b := b) (((a3.mono fun a k z => by unfold AC; omega).trans (b3.mono fun a k z => by unfold AC; omega)).trans (g.mono fun a k z => by unfold AC; omega)), ?_, ?_, by rw [sI_wI, if_pos ⟨rfl, rfl⟩], ?_, by rw [sI_wI, if_neg (by omega), sI_wI, if_pos ⟨rfl, rfl⟩]; rfl, fun z => absurd rfl z⟩)⟩
    · have e9 : flC ((10, ((fl F).length, plF 10 0, []), [], []) :: F) ++ [] = flC F ++ [((fl F).length, plF 10 1, [])] := by
        rw [List.append_nil]
        show flC F ++ [((fl F).length, setN (plF 10 0) 1 1, [])] = _
        rw [pl_1]
      show TR _ b (i + 1) (flC ((10, ((fl F).length, plF 10 0, []), [], []) :: F) ++ [])
      rw [e9]
      exact (trM b2 hb g (fun a k z => by omega)).up (by omega)
    · exact (a2.of b3 (fun a k z => by omega)).of g (fun a k z => by omega)
    · rw [g.i (by omega), b3.i (by omega), a3.i (by omega)]
      exact h.2.2.2.2.1
  · rw [e70]
    simp only [bv_some]
    rw [if_pos trivial, if_pos (by omega)]
    exact ⟨_, rfl, Or.inl ⟨by rw [sI_wI, if_pos ⟨rfl, rfl⟩, h.2.2.2.1]; exact nm1 (by omega), dead.l⟩⟩
/-- what the flag of arguments means -/
def frI (fr : Int32) (F : List Fw) : Prop := fr = 0 ∨ (fr = 1 ∧ ∃ f F0, F = f :: F0 ∧ f.1 = 7 ∧ f.2.2.2 = []) ∨ (fr = 2 ∧ ∃ f F0, F = f :: F0 ∧ f.1 = 7 ∧ f.2.2.2 ≠ [])
set_option maxRecDepth 100000 in
/-- an argument that is nothing, or brackets with nothing in them -/
theorem x119 (h : XI s b t ns i F [] fr 0) (hF : ∀ f ∈ F, gdF ns f) (hfr : frI fr F) (hi : i < t.length) {c : Int32} {v : Int32} (hc : t.getD i 0 = c) (hv : (c = 41 ∧ v = 1) ∨ (c = 44 ∧ v = 0)) : ∃ s', dm119 v s = some s' ∧ ((fr = 0 ∧ sI s' 106 8 ≠ -1) ∨ (c = 41 ∧ fr = 1 ∧ ∃ f F0, F = f :: F0 ∧ XI s' b t ns (i + 1) F0 (f.2.1 :: (f.2.2.1 ++ [])) 0 0) ∨ (¬ fr = 0 ∧ ¬ (c = 41 ∧ fr = 1) ∧ (((flC F).length = 128 ∧ sI s' 106 8 ≠ -1) ∨ ((flC F).length < 128 ∧ ((sI s' 106 8 ≠ -1 ∧ ∃ p, mBeh t i F [((fl F).length, plF 8 0, [])] 0 = .inl p) ∨ ∃ z, mBeh t i F [((fl F).length, plF 8 0, [])] 0 = .inr z ∧ XI s' b t ns z.1 z.2.1 z.2.2.1 z.2.2.2.1 z.2.2.2.2))))) := by
  have hl := h.1.1.2.1
  have hb := xb h.1
  obtain ⟨K, -, B, h7, h8, h9, -⟩ := id h
  have T := h.tr
  have h9e : sI s 106 9 = if fr = 0 then 1 else 0 := h9
  by_cases f0 : fr = 0
  · unfold dm119
    rw [if_neg (by rw [h9e, if_pos f0]; decide), nx_eq]
    exact ⟨_, rfl, Or.inl ⟨f0, by rw [sI_wI, if_pos ⟨rfl, rfl⟩, h7]; exact nm1 (by omega)⟩⟩
  · obtain ⟨f, F0, eF, f7⟩ : ∃ f F0, F = f :: F0 ∧ f.1 = 7 := by
      rcases hfr with z | ⟨-, f, F0, z1, z2, -⟩ | ⟨-, f, F0, z1, z2, -⟩
      · exact absurd z f0
      · exact ⟨f, F0, z1, z2⟩
      · exact ⟨f, F0, z1, z2⟩
    have n100 : ¬ f.1 = 100 := fun z => by rw [z] at f7; exact absurd f7 (by decide)
    have hfg := hF f (by rw [eF]; exact List.mem_cons_self)
    have hk : f.2.2.2.length ≤ 29 ∧ f.2.1.2.1 1 = Int32.ofNat f.2.2.2.length := by
      rcases hfg with z | z
      · exact absurd z n100
      · exact ⟨z.2.2.2.2.2.2.2.1, z.2.2.1 f7⟩
    have eb : bO F = ((flC F0).length, Int32.ofNat f.2.2.2.length, (pO F0).length) :: bO F0 := by
      rw [eF, bO, if_neg n100, if_pos f7]
    have ep : pO F = pO F0 := by rw [eF, pO, if_pos (Or.inr f7)]
    have et : flC F = flC F0 ++ hdC f :: f.2.2.1 := by
      rw [eF]
      show flC F0 ++ frC f = _
      unfold frC
      rw [if_neg n100]
    have eA : bA (bO F) = Int32.ofNat f.2.2.2.length := by rw [eb]; rfl
    by_cases c41 : c = 41 ∧ fr = 1
    · have hv1 : v = 1 := by
        rcases hv with z | z
        · exact z.2
        · rw [c41.1] at z
          exact absurd z.1 (by decide)
      have hlen : f.2.2.2 = [] := by
        rcases hfr with z | ⟨-, f9, F9, z1, z2, z3⟩ | ⟨z, -⟩
        · exact absurd z f0
        · rw [eF] at z1
          cases z1
          exact z3
        · rw [c41.2] at z
          exact absurd z (by decide)
      unfold dm119
      rw [if_pos (by rw [h9e, if_neg f0]), hv1, if_neg (by decide), x74 B, eA, hlen]
      simp only [bu_some]
      rw [if_pos (show Int32.ofNat ([] : List Nat).length = 0 from rfl)]
      have B2 := B
      rw [ep, eb, hlen] at B2
      have T2 := T
      rw [et] at T2
      obtain ⟨s', q1, q2, q3, q4, q5, q6, q7⟩ := x77b (P1 := []) (v := Int32.ofNat ([] : List Nat).length) K T2 rfl (by decide) B2 h7 (by omega)
      rw [q1]
      refine ⟨s', rfl, Or.inr (Or.inl ⟨c41.1, c41.2, f, F0, eF, K.of (b := b) (q7.mono fun a k z => aMC z), ?_, q3, q6, (q7.i (by unfold aM; omega)).trans h8, by rw [q5]; rfl, fun _ => q4⟩)⟩
      have e9 : (((hdC f).1, setN (hdC f).2.1 1 (Int32.ofNat ([] : List Nat).length), (hdC f).2.2) : NN) = f.2.1 := by
        show (f.2.1.1, setN (setN f.2.1.2.1 1 (caF f)) 1 (Int32.ofNat ([] : List Nat).length), f.2.1.2.2) = f.2.1
        rw [setN_2, setN_id (by rw [hk.2, hlen])]
      rw [e9] at q2
      rw [List.append_nil]
      exact q2.up (by omega)
    · -- a node that is nothing, then the end of the argument
      have e119 : dm119 v s = dm119_17 v s := by
        unfold dm119
        rw [if_pos (by rw [h9e, if_neg f0])]
        rcases hv with ⟨z1, z2⟩ | ⟨z1, z2⟩
        · rw [z2, if_neg (by decide), x74 B, eA]
          simp only [bu_some]
          rw [if_neg (fun z => ?_)]
          have z := (neq_iff (b := 0) (by omega) (by omega)).mp z
          rcases hfr with y | ⟨y, -⟩ | ⟨-, f9, F9, y1, y2, y3⟩
          · exact f0 y
          · exact c41 ⟨z1, y⟩
          · rw [eF] at y1
            cases y1
            exact y3 (List.length_eq_zero_iff.mp z)
        · rw [z2, if_pos rfl]
      rw [e119]
      unfold dm119_17
      rcases x70 K T (sI s 106 7) with ⟨c8, e70⟩ | ⟨c8, e70⟩
      · have T0 : TR s b i (flC F ++ []) := by rw [List.append_nil]; exact T
        obtain ⟨s2, a1, a2, a3⟩ := x72 (q := (fl F).length) (kd := 8) (c := 0) T0 (by rw [List.append_nil]; exact c8)
        have K2 := K.of (b := b) (a3.mono fun a k z => by unfold AC; omega)
        have B2 := B.of a3 (fun a k z => by omega)
        have f7s : sI s2 106 7 = Int32.ofNat i := (a3.i (by omega)).trans h7
        have f8s : sI s2 106 8 = -1 := (a3.i (by omega)).trans h8
        rw [e70]
        simp only [bv_some]
        rw [if_neg (by decide), (xtr K).1, if_pos (xk K), (xtr K).1, if_pos (xk K)]
        unfold dm94
        simp only [bu_some]
        rw [T.1, a1]
        simp only [bu_some]
        have er : rdF 0 F [((fl F).length, plF 8 0, [])] = (F, [((fl F).length, plF 8 0, [])]) := by
          rw [eF, rdF, if_pos (Or.inr (Or.inl f7))]
        have hO : ¬ nO F = 0 := by
          rw [eF]
          show ¬ nO F0 + (if f.1 = 100 ∨ f.1 = 7 then 1 else 0) = 0
          rw [if_pos (Or.inr f7)]
          omega
        have hin : inM F = 7 := by
          rw [eF]
          show (if f.1 = 100 ∨ f.1 = 7 then f.1 else inM F0) = 7
          rw [if_pos (Or.inr f7), f7]
        rcases hv with ⟨z1, z2⟩ | ⟨z1, z2⟩
        · subst z2
          have T3 : TR s2 b i (flC F0 ++ hdC f :: (f.2.2.1 ++ [((fl F).length, plF 8 0, [])])) := by
            have := a2
            rw [et, List.append_assoc] at this
            exact this
          have B3 := B2
          rw [ep, eb] at B3
          obtain ⟨s', q1, q2, q3, q4, q5, q6, q7⟩ := x75b (P1 := []) K2 T3 rfl (by omega) B3 f7s (by omega)
          rw [q1]
          refine ⟨s', rfl, Or.inr (Or.inr ⟨f0, c41, Or.inr ⟨c8, Or.inr ⟨(i + 1, F0, clC f [((fl F).length, plF 8 0, [])], 0, 0), ?_, K2.of (b := b) (q7.mono fun a k z => aMC z), ?_, q3, q6, (q7.i (by unfold aM; omega)).trans f8s, ?_, fun _ => q4⟩⟩⟩)⟩
          · unfold mBeh
            rw [hc, if_neg (fun z => by rw [z1] at z; exact absurd z.1 (by decide)), if_pos ⟨z1, hO⟩, er, eF]
          · have e8 : (((hdC f).1, setN (hdC f).2.1 1 (Int32.ofNat (f.2.2.2.length + 1)), (hdC f).2.2) : NN) = upN f := by
              show (f.2.1.1, setN (setN f.2.1.2.1 1 (caF f)) 1 (Int32.ofNat (f.2.2.2.length + 1)), f.2.1.2.2) = upN f
              rw [setN_2]
              rfl
            rw [e8] at q2
            show TR s' b (i + 1) (flC F0 ++ clC f [((fl F).length, plF 8 0, [])])
            unfold clC
            rw [if_pos f7]
            exact q2.up (by omega)
          · rw [q5]
            show (4 : Int32) = wn (clC f [((fl F).length, plF 8 0, [])]) 0 0
            unfold clC
            rw [if_pos f7]
            rfl
        · subst z2
          have eM : mBeh t i F [((fl F).length, plF 8 0, [])] 0 = if f.2.2.2.length = 29 then .inl i else .inr (i + 1, cmF f [((fl F).length, plF 8 0, [])] :: F0, [], 2, 0) := by
            unfold mBeh
            rw [hc, if_neg (fun z => by rw [z1] at z; exact absurd z.1 (by decide)), if_neg (fun z => by rw [z1] at z; exact absurd z.1 (by decide)), if_pos ⟨z1, hin⟩, er, eF]
          have B3 := B2
          rw [ep, eb] at B3
          by_cases k29 : f.2.2.2.length = 29
          · obtain ⟨s', q1, q2⟩ := x75w k29 B3 f7s (by omega)
            rw [q1]
            exact ⟨s', rfl, Or.inr (Or.inr ⟨f0, c41, Or.inr ⟨c8, Or.inl ⟨q2, i, by rw [eM, if_pos k29]⟩⟩⟩)⟩
          · obtain ⟨s', q1, q2, q3, q4, q5, q6⟩ := x75c (P1 := []) K2 a2 (by omega) B3 f7s (by omega)
            rw [q1]
            refine ⟨s', rfl, Or.inr (Or.inr ⟨f0, c41, Or.inr ⟨c8, Or.inr ⟨_, by rw [eM, if_neg k29], K2.of (b := b) (q6.mono fun a k z => aMC z), ?_, ?_, q5, (q6.i (by unfold aM; omega)).trans f8s, by rw [q4]; rfl, fun z => absurd rfl z⟩⟩⟩)⟩
            · have e9 : flC (cmF f [((fl F).length, plF 8 0, [])] :: F0) ++ [] = flC F ++ [((fl F).length, plF 8 0, [])] := by
                rw [List.append_nil, et, List.append_assoc]
                show flC F0 ++ frC (cmF f [((fl F).length, plF 8 0, [])]) = _
                unfold frC
                rw [if_neg (show ¬ (cmF f [((fl F).length, plF 8 0, [])]).1 = 100 from n100)]
                have e8 : hdC (cmF f [((fl F).length, plF 8 0, [])]) = hdC f := by
                  show (f.2.1.1, setN (setN f.2.1.2.1 1 (Int32.ofNat (f.2.2.2.length + 1))) 1 (caF (cmF f [((fl F).length, plF 8 0, [])])), f.2.1.2.2) = hdC f
                  rw [setN_2]
                  rfl
                rw [e8]
                rfl
              show TR s' b (i + 1) (flC (cmF f [((fl F).length, plF 8 0, [])] :: F0) ++ [])
              rw [e9]
              exact q2.up (by omega)
            · have ep2 : pO (cmF f [((fl F).length, plF 8 0, [])] :: F0) = pO F0 := by
                rw [pO]
                exact if_pos (Or.inr f7)
              have eb2 : bO (cmF f [((fl F).length, plF 8 0, [])] :: F0) = ((flC F0).length, Int32.ofNat (f.2.2.2.length + 1), (pO F0).length) :: bO F0 := by
                rw [bO, if_neg (show ¬ (cmF f [((fl F).length, plF 8 0, [])]).1 = 100 from n100), if_pos (show (cmF f [((fl F).length, plF 8 0, [])]).1 = 7 from f7)]
                show ((flC F0).length, Int32.ofNat (f.2.2.2 ++ [hdI [((fl F).length, plF 8 0, [])]]).length, (pO F0).length) :: bO F0 = _
                rw [List.length_append]
                rfl
              show PB s' (pO (cmF f [((fl F).length, plF 8 0, [])] :: F0)) (bO (cmF f [((fl F).length, plF 8 0, [])] :: F0))
              rw [ep2, eb2]
              exact q3
      · rw [e70]
        simp only [bv_some]
        rw [if_pos trivial]
        exact ⟨_, rfl, Or.inr (Or.inr ⟨f0, c41, Or.inl ⟨c8, by rw [sI_wI, if_pos ⟨rfl, rfl⟩, h7]; exact nm1 (by omega)⟩⟩)⟩
end XX
