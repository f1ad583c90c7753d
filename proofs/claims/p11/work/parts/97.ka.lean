/-! the reader of FormulaTrees, exactly: its tree -/
def TR (s : aS) (b z : Nat) (M : List NN) : Prop := sI s b 2 = Int32.ofNat M.length ∧ M.length ≤ 128 ∧ ∃ u, TL s b u ∧ u.length ≤ z ∧ ∀ k n, M[k]? = some n → CR s b k n.2.1 ∧ NL s b k u n.2.2
section XX
variable {s s1 : aS} {b z z1 : Nat} {M : List NN} {A : Nat → Nat → Prop}
set_option maxRecDepth 100000 in
theorem TR.of (h : TR s b z M) (g : ch A s s1) (h0 : ¬ A b 2) (h1 : ∀ k, ¬ A (b + 1) k) (h2 : ¬ A (b + 2) 1) (h3 : ∀ k, ¬ A (b + 3) k) : TR s1 b z M := by
  obtain ⟨a1, a2, u, a3, a4, a5⟩ := h
  refine ⟨(g.i h0).trans a1, a2, u, a3.of g h2 h3, a4, fun k n q => ?_⟩
  obtain ⟨c1, st, e1, e2, e3, e4⟩ := a5 k n q
  exact ⟨fun w hw => (g.i (h1 _)).trans (c1 w hw), st, (g.i (h1 _)).trans e1, (g.i (h1 _)).trans e2, e3, e4⟩
set_option maxRecDepth 100000 in
theorem TR.up (h : TR s b z M) (hz : z ≤ z1) : TR s b z1 M := by
  obtain ⟨a1, a2, u, a3, a4, a5⟩ := h
  exact ⟨a1, a2, u, a3, by omega, a5⟩
set_option maxRecDepth 100000 in
/-- numbers of nodes are no matter -/
theorem TR.eq {L : List NN} (h : TR s b z M) (hl : L.map (fun n => n.2) = M.map (fun n => n.2)) : TR s b z L := by
  obtain ⟨a1, a2, u, a3, a4, a5⟩ := h
  have e : L.length = M.length := by
    have := congrArg List.length hl
    rw [List.length_map, List.length_map] at this
    exact this
  refine ⟨by rw [e]; exact a1, by rw [e]; exact a2, u, a3, a4, fun k n q => ?_⟩
  have q2 : (L.map (fun n => n.2))[k]? = some n.2 := by rw [List.getElem?_map, q]; rfl
  rw [hl, List.getElem?_map] at q2
  cases hm : M[k]? with
  | none =>
    rw [hm] at q2
    cases q2
  | some m =>
    rw [hm] at q2
    have q3 : m.2 = n.2 := Option.some.inj q2
    have := a5 k m hm
    rw [q3] at this
    exact this
set_option maxRecDepth 100000 in
theorem mid_l {A B : List NN} {x : NN} {k : Nat} (h : k < A.length) : (A ++ x :: B)[k]? = (A ++ B)[k]? := by rw [List.getElem?_append_left h, List.getElem?_append_left h]
set_option maxRecDepth 100000 in
theorem mid_m {A B : List NN} {x : NN} : (A ++ x :: B)[A.length]? = some x := by
  rw [List.getElem?_append_right (Nat.le_refl _), Nat.sub_self]
  rfl
set_option maxRecDepth 100000 in
theorem mid_r {A B : List NN} {x : NN} {k : Nat} (h : A.length < k) : (A ++ x :: B)[k]? = (A ++ B)[k - 1]? := by
  rw [List.getElem?_append_right (by omega), List.getElem?_append_right (by omega), show k - A.length = (k - 1 - A.length) + 1 by omega]
  rfl
set_option maxRecDepth 100000 in
theorem mid_s {A B : List NN} {x y : NN} {k : Nat} (h : k ≠ A.length) : (A ++ x :: B)[k]? = (A ++ y :: B)[k]? := by
  by_cases c : k < A.length
  · rw [mid_l c, mid_l c]
  · rw [mid_r (by omega), mid_r (by omega)]
set_option maxRecDepth 100000 in
/-- a node put in -/
theorem x72 {C B : List NN} {q : Nat} {kd c : Int32} (h : TR s b z (C ++ B)) (h8 : (C ++ B).length < 128) : ∃ s', dm72 b (Int32.ofNat C.length) kd c s = some s' ∧ TR s' b z (C ++ (q, plF kd c, []) :: B) ∧ ch (fun a j => (a = b ∧ j = 2) ∨ a = b + 1) s s' := by
  obtain ⟨a1, a2, u, a3, a4, a5⟩ := h
  obtain ⟨N, hN⟩ : ∃ N, N = (C ++ B).length := ⟨_, rfl⟩
  obtain ⟨p, hp⟩ : ∃ p, p = C.length := ⟨_, rfl⟩
  have hpN : p ≤ N := by rw [hN, hp, List.length_append]; omega
  rw [← hN] at a1 a2 h8
  obtain ⟨s1, l1, l2, l3⟩ := k72l (b := b) (x2 := kd) (x3 := c) hpN h8 (11 * N - 11 * p) 5000 s (by omega) (by omega)
  rw [show 11 * p + (11 * N - 11 * p) = 11 * N by omega] at l1 l2 l3
  have e1 : sI s1 b 2 = Int32.ofNat N := (l3.i (by omega)).trans a1
  have h2 : sI (wI s1 b 2 (Int32.ofNat (N + 1))) b 2 = Int32.ofNat (N + 1) := by rw [sI_wI, if_pos ⟨rfl, rfl⟩]
  obtain ⟨s2, m1, m2, m3⟩ := d59 (k := kd) (c := c) h2 (show N + 1 ≤ 128 by omega) (show p < N + 1 by omega)
  have cc : ch (fun a k => (a = b ∧ k = 2) ∨ a = b + 1) s s2 := ((l3.mono fun a k z => Or.inr z.1).wI (Or.inl ⟨rfl, rfl⟩)).trans (m3.mono fun a k z => Or.inr z.1)
  have lo : ∀ j, j < 11 * p → sI s2 (b + 1) j = sI s (b + 1) j := fun j hj => by rw [m3.i (by omega), sI_wI, if_neg (by omega), l3.i (by omega)]
  have hi : ∀ j, 11 * p ≤ j → j < 11 * N → sI s2 (b + 1) (j + 11) = sI s (b + 1) j := fun j hj1 hj2 => by rw [m3.i (by omega), sI_wI, if_neg (by omega), l2 j hj1 hj2]
  have hlen : (C ++ (q, plF kd c, []) :: B).length = N + 1 := by rw [hN, List.length_append, List.length_append, List.length_cons]; omega
  refine ⟨s2, ?_, ⟨?_, by omega, u, a3.of cc (by omega) (fun k => by omega), a4, fun k n hk => ?_⟩, cc⟩
  · unfold dm72 dm71
    rw [a1, if_pos (show Int32.ofNat N < 128 from (nlt_iff (b := 128) (by omega) (by omega)).mpr (by omega))]
    simp only [bu_some]
    rw [if_pos trivial, ← hp, if_neg (fun z => by have := (nlt_iff (b := 0) (by omega) (by omega)).mp z; omega), if_pos ((nle_iff (by omega) (by omega)).mpr hpN), mul11 (by omega), l1, e1, ofNat_succ (by omega), nx_eq, m1]
    rfl
  · rw [hlen, m3.i (by omega)]
    exact h2
  · have hkN : k < N + 1 := by
      rw [← hlen]
      exact (List.getElem?_eq_some_iff.mp hk).1
    by_cases k1 : k = p
    · subst k1
      rw [hp, mid_m] at hk
      cases hk
      refine ⟨fun w hw => m2 w (by omega), 0, m2 9 (by decide), m2 10 (by decide), Nat.zero_le _, fun j hj => absurd hj (Nat.not_lt_zero j)⟩
    · by_cases k2 : k < p
      · rw [mid_l (by omega)] at hk
        obtain ⟨r0, st, r1, r2, r3, r4⟩ := a5 k n hk
        exact ⟨fun w hw => (lo _ (by omega)).trans (r0 w hw), st, (lo _ (by omega)).trans r1, (lo _ (by omega)).trans r2, r3, r4⟩
      · rw [mid_r (by omega)] at hk
        obtain ⟨r0, st, r1, r2, r3, r4⟩ := a5 (k - 1) n hk
        have sh : ∀ w, w < 11 → sI s2 (b + 1) (11 * k + w) = sI s (b + 1) (11 * (k - 1) + w) := fun w hw => by
          rw [show 11 * k + w = (11 * (k - 1) + w) + 11 by omega]
          exact hi _ (by omega) (by omega)
        exact ⟨fun w hw => (sh w (by omega)).trans (r0 w hw), st, (sh 9 (by omega)).trans r1, (sh 10 (by omega)).trans r2, r3, r4⟩
set_option maxRecDepth 100000 in
/-- a fact of a node becomes another -/
theorem TR.set {C B : List NN} {n : NN} {w : Nat} {v : Int32} (h : TR s b z (C ++ n :: B)) (hw : w < 9) : TR (wI s (b + 1) (11 * C.length + w) v) b z (C ++ (n.1, setN n.2.1 w v, n.2.2) :: B) := by
  obtain ⟨a1, a2, u, a3, a4, a5⟩ := h
  have el : (C ++ (n.1, setN n.2.1 w v, n.2.2) :: B).length = (C ++ n :: B).length := by rw [List.length_append, List.length_append, List.length_cons, List.length_cons]
  have g : ch (fun a _ => a = b + 1) s (wI s (b + 1) (11 * C.length + w) v) := (ch.refl _ s).wI rfl
  refine ⟨by rw [el, g.i (by omega)]; exact a1, by rw [el]; exact a2, u, a3.of g (by omega) (fun k => by omega), a4, fun k m hk => ?_⟩
  by_cases e : k = C.length
  · subst e
    rw [mid_m] at hk
    cases hk
    obtain ⟨r0, st, r1, r2, r3, r4⟩ := a5 C.length n mid_m
    refine ⟨CR.set r0 (by omega), st, ?_, ?_, r3, r4⟩
    · rw [sI_wI, if_neg (by omega)]
      exact r1
    · rw [sI_wI, if_neg (by omega)]
      exact r2
  · rw [mid_s (y := n) e] at hk
    obtain ⟨r0, st, r1, r2, r3, r4⟩ := a5 k m hk
    have ne : ∀ j, j < 11 → sI (wI s (b + 1) (11 * C.length + w) v) (b + 1) (11 * k + j) = sI s (b + 1) (11 * k + j) := fun j hj => by rw [sI_wI, if_neg (by omega)]
    exact ⟨fun j hj => (ne j (by omega)).trans (r0 j hj), st, (ne 9 (by omega)).trans r1, (ne 10 (by omega)).trans r2, r3, r4⟩
set_option maxRecDepth 100000 in
theorem TR.len (h : TR s b z M) : sI s b 2 = Int32.ofNat M.length := h.1
set_option maxRecDepth 100000 in
theorem TR.le (h : TR s b z M) : M.length ≤ 128 := h.2.1
set_option maxRecDepth 100000 in
theorem mid_len {C B : List NN} {n : NN} : C.length < (C ++ n :: B).length := by rw [List.length_append, List.length_cons]; omega
set_option maxRecDepth 100000 in
theorem x60 {C B : List NN} {n : NN} {w : Nat} {v : Int32} (h : TR s b z (C ++ n :: B)) (hw : w < 11) : dm60 b (Int32.ofNat C.length) (Int32.ofNat w) v s = some (wI s (b + 1) (11 * C.length + w) v) := d60 h.1 h.2.1 mid_len hw
set_option maxRecDepth 100000 in
theorem x57 {C B : List NN} {n : NN} {w : Nat} (h : TR s b z (C ++ n :: B)) (hw : w < 9) : dm57 b (Int32.ofNat C.length) (Int32.ofNat w) s = some (n.2.1 w) := by
  rw [d57 h.1 h.2.1 mid_len (by omega)]
  obtain ⟨-, -, u, -, -, a5⟩ := h
  rw [(a5 C.length n mid_m).1 w hw]
set_option maxRecDepth 100000 in
/-- letters given to the last node -/
theorem x107 {C : List NN} {n : NN} {hd : List Int32} (h : TR s b z (C ++ [n])) (hb : b = 102 ∨ 149 ≤ b) (h3 : (sT s (b + 3)).2 = 256) (h108 : (sT s 108).2 = 256) (hh : HH s hd) (hz : z + hd.length ≤ 256) : ∃ s', dm107 b (Int32.ofNat C.length) 107 s = some s' ∧ TR s' b (z + hd.length) (C ++ [(n.1, n.2.1, hd)]) ∧ ch (fun a k => a = b + 1 ∨ (a = b + 2 ∧ k = 1) ∨ a = b + 3) s s' := by
  have x9 : ∀ v, dm60 b (Int32.ofNat C.length) 9 v s = some (wI s (b + 1) (11 * C.length + 9) v) := fun v => x60 (w := 9) h (by omega)
  obtain ⟨a1, a2, u, a3, a4, a5⟩ := h
  have hhl := hh.2.1
  have hul := a3.2.1
  have el : (C ++ [(n.1, n.2.1, hd)]).length = (C ++ [n]).length := by rw [List.length_append, List.length_append]; rfl
  let s2 := wI (wI s (b + 1) (11 * C.length + 9) (Int32.ofNat u.length)) (b + 1) (11 * C.length + 10) (Int32.ofNat hd.length)
  have ch2 : ch (fun a _ => a = b + 1) s s2 := ((ch.refl (fun a _ => a = b + 1) s).wI rfl).wI rfl
  have hC := a2
  rw [List.length_append] at hC
  have hC : C.length + 1 ≤ 128 := hC
  have x10 : dm60 b (Int32.ofNat C.length) 10 (Int32.ofNat hd.length) (wI s (b + 1) (11 * C.length + 9) (Int32.ofNat u.length)) = some s2 := d60 (n := (C ++ [n]).length) (w := 10) (by rw [sI_wI, if_neg (by omega)]; exact a1) a2 (by rw [List.length_append]; show C.length < C.length + 1; omega) (by omega)
  have e0 : dm107 b (Int32.ofNat C.length) 107 s = dm107_15 5000 b 107 0 s2 := by
    unfold dm107
    have q1 : dm28 (b + 2) s = some (Int32.ofNat u.length) := by unfold dm28; rw [a3.1.n]
    rw [q1]
    simp only [bu_some]
    rw [x9]
    simp only [bu_some]
    have q2 : dm28 107 (wI s (b + 1) (11 * C.length + 9) (Int32.ofNat u.length)) = some (Int32.ofNat hd.length) := by
      unfold dm28
      rw [sI_wI, if_neg (by omega), hh.1.n]
    rw [q2]
    simp only [bu_some]
    rw [x10]
    rfl
  have loop : ∀ (m j n : Nat) (s3 : aS), ch (fun a k => a = b + 1 ∨ (a = b + 2 ∧ k = 1) ∨ a = b + 3) s s3 → LT s3 (b + 2) (u ++ hd.take j) → j + m = hd.length → m < n → ∃ s4, dm107_15 n b 107 (Int32.ofNat j) s3 = some s4 ∧ LT s4 (b + 2) (u ++ hd) ∧ ch (fun a k => (a = b + 2 ∧ k = 1) ∨ a = b + 3) s3 s4 := by
    intro m
    induction m with
    | zero =>
      intro j n s3 c3 l3 h1 h2
      obtain ⟨n, rfl⟩ : ∃ q, n = q + 1 := ⟨n - 1, by omega⟩
      have e1 : sI s3 107 1 = Int32.ofNat hd.length := (c3.i (by omega)).trans hh.1.n
      rw [dm107_15]
      unfold dm28
      simp only [bu_some]
      rw [e1, if_pos ((nle_iff (by omega) (by omega)).mpr (by omega))]
      rw [List.take_of_length_le (by omega)] at l3
      exact ⟨s3, rfl, l3, ch.refl _ s3⟩
    | succ m ih =>
      intro j n s3 c3 l3 h1 h2
      obtain ⟨n, rfl⟩ : ∃ q, n = q + 1 := ⟨n - 1, by omega⟩
      have e1 : LT s3 107 hd := hh.1.of c3 (by omega) (fun k => by omega)
      have hj : j < hd.length := by omega
      have hT : (sT s3 108).2 = 256 := by rw [c3.2.1]; exact h108
      rw [dm107_15]
      unfold dm28
      simp only [bu_some]
      rw [e1.n, if_neg (fun q => by have := (nle_iff (by omega) (by omega)).mp q; omega), d34 e1 (by rw [hT]; exact hhl) (by omega) (by omega), getD_in hj]
      simp only [bu_some]
      have hxo := hh.2.2 hd[j] (List.getElem_mem hj)
      have hlen : (u ++ hd.take j).length < 256 := by rw [List.length_append, List.length_take]; omega
      obtain ⟨s4, f1, f2, f3⟩ := l3.add (m := 256) (by rw [c3.2.1]; exact h3) (by decide) hlen (x := hd[j]) ⟨by omega, by omega⟩
      rw [f1]
      simp only [bu_some]
      rw [ofNat_succ (by omega)]
      have l4 : LT s4 (b + 2) (u ++ hd.take (j + 1)) := by
        rw [List.take_succ_eq_append_getElem hj, ← List.append_assoc]
        exact f2
      obtain ⟨s5, k1, k2, k3⟩ := ih (j + 1) n s4 (c3.trans (f3.mono fun a k z => by omega)) l4 (by omega) (by omega)
      exact ⟨s5, k1, k2, (f3.mono fun a k z => by omega).trans k3⟩
  obtain ⟨s4, l1, l2, l3⟩ := loop hd.length 0 5000 s2 (ch2.mono fun a k z => Or.inl z) (by rw [List.take_zero, List.append_nil]; exact a3.1.of ch2 (by omega) (fun k => by omega)) (by omega) (by omega)
  have cc : ch (fun a k => a = b + 1 ∨ (a = b + 2 ∧ k = 1) ∨ a = b + 3) s s4 := (ch2.mono fun a k z => Or.inl z).trans (l3.mono fun a k z => Or.inr z)
  refine ⟨s4, e0.trans l1, ⟨by rw [el, cc.i (by omega)]; exact a1, by rw [el]; exact a2, u ++ hd, ⟨l2, by rw [List.length_append]; omega, fun y hy => ?_⟩, by rw [List.length_append]; omega, fun k m hk => ?_⟩, cc⟩
  · rcases List.mem_append.mp hy with q | q
    · exact a3.2.2 y q
    · exact hh.2.2 y q
  · by_cases e : k = C.length
    · subst e
      rw [mid_m] at hk
      cases hk
      obtain ⟨r0, -⟩ := a5 C.length n mid_m
      refine ⟨fun w hw => ?_, u.length, ?_, ?_, (show u.length + hd.length ≤ (u ++ hd).length by rw [List.length_append]; omega), fun j hj => ?_⟩
      · rw [l3.i (by omega)]
        show sI (wI (wI s (b + 1) (11 * C.length + 9) (Int32.ofNat u.length)) (b + 1) (11 * C.length + 10) (Int32.ofNat hd.length)) (b + 1) (11 * C.length + w) = _
        rw [sI_wI, if_neg (by omega), sI_wI, if_neg (by omega)]
        exact r0 w hw
      · rw [l3.i (by omega)]
        show sI (wI (wI s (b + 1) (11 * C.length + 9) (Int32.ofNat u.length)) (b + 1) (11 * C.length + 10) (Int32.ofNat hd.length)) (b + 1) (11 * C.length + 9) = _
        rw [sI_wI, if_neg (by omega), sI_wI, if_pos ⟨rfl, rfl⟩]
      · rw [l3.i (by omega)]
        show sI (wI (wI s (b + 1) (11 * C.length + 9) (Int32.ofNat u.length)) (b + 1) (11 * C.length + 10) (Int32.ofNat hd.length)) (b + 1) (11 * C.length + 10) = _
        rw [sI_wI, if_pos ⟨rfl, rfl⟩]
      · have hj : j < hd.length := hj
        rw [getD_in (by rw [List.length_append]; omega), List.getElem_append_right (by omega)]
        simp
    · rw [mid_s (y := n) e] at hk
      obtain ⟨r0, st, r1, r2, r3, r4⟩ := a5 k m hk
      have ne : ∀ j, j < 11 → sI s4 (b + 1) (11 * k + j) = sI s (b + 1) (11 * k + j) := fun j hj => by
        rw [l3.i (by omega)]
        show sI (wI (wI s (b + 1) (11 * C.length + 9) (Int32.ofNat u.length)) (b + 1) (11 * C.length + 10) (Int32.ofNat hd.length)) (b + 1) (11 * k + j) = _
        rw [sI_wI, if_neg (by omega), sI_wI, if_neg (by omega)]
      refine ⟨fun j hj => (ne j (by omega)).trans (r0 j hj), st, (ne 9 (by omega)).trans r1, (ne 10 (by omega)).trans r2, by rw [List.length_append]; omega, fun j hj => ?_⟩
      have := r4 j hj
      rw [getD_in (show st + j < u.length by omega)] at this
      rw [getD_in (show st + j < (u ++ hd).length by rw [List.length_append]; omega), List.getElem_append_left (by omega)]
      exact this
end XX
