/-! a name is given: letters copied, quotes noted -/
set_option maxRecDepth 100000 in
theorem d41l {s0 : aS} {b0 b1 m : Nat} {u : List Int32} (hd : b0 ≠ b1 ∧ b0 + 1 ≠ b1 ∧ b0 ≠ b1 + 1) (hb : (sT s0 (b0 + 1)).2 = m) (hb1 : u.length ≤ (sT s0 (b1 + 1)).2) (hm : m < 100000) (hu : u.length ≤ m) (ho : okT u) : ∀ (q i n : Nat) (s : aS), i + q = u.length → q < n → LT s b0 (u.take i) → LT s b1 u → ch (fun a k => (a = b0 ∧ k = 1) ∨ a = b0 + 1) s0 s → ∃ s', dm41_4 n b0 b1 (Int32.ofNat i) s = some s' ∧ LT s' b0 u ∧ ch (fun a k => (a = b0 ∧ k = 1) ∨ a = b0 + 1) s0 s' := by
  intro q
  induction q with
  | zero =>
    intro i n s hi hn h0 h1 hc
    obtain ⟨n, rfl⟩ : ∃ k, n = k + 1 := ⟨n - 1, by omega⟩
    rw [dm41_4]
    unfold dm28
    simp only [bu_some]
    rw [h1.n, if_pos (by rw [iLe, iOfNat (by omega), iOfNat (by omega)]; omega)]
    rw [List.take_of_length_le (by omega)] at h0
    exact ⟨s, rfl, h0, hc⟩
  | succ q ih =>
    intro i n s hi hn h0 h1 hc
    obtain ⟨n, rfl⟩ : ∃ k, n = k + 1 := ⟨n - 1, by omega⟩
    have hl : i < u.length := by omega
    have e1 : u.getD i (-1) = u[i] := by simp [List.getD, List.getElem?_eq_getElem hl]
    have hx := ho _ (List.getElem_mem hl)
    rw [dm41_4]
    unfold dm28
    simp only [bu_some]
    rw [h1.n, if_neg (by rw [iLe, iOfNat (by omega), iOfNat (by omega)]; omega), d34 h1 (by rw [hc.2.1]; exact hb1) (by omega) (by omega)]
    simp only [bu_some]
    rw [e1]
    obtain ⟨s1, g1, g2, g3⟩ := h0.add (m := m) (x := u[i]) (by rw [hc.2.1]; exact hb) (by omega) (by rw [List.length_take]; omega) (by omega)
    rw [g1]
    simp only [bu_some]
    rw [ofNat_succ (by omega)]
    refine ih (i + 1) n s1 (by omega) (by omega) ?_ (h1.of g3 (by omega) (by omega)) (hc.trans g3)
    rw [List.take_succ_eq_append_getElem hl]
    exact g2
set_option maxRecDepth 100000 in
theorem d41 {s : aS} {b0 b1 m : Nat} {u : List Int32} (h : LT s b1 u) (hd : b0 ≠ b1 ∧ b0 + 1 ≠ b1 ∧ b0 ≠ b1 + 1) (hb : (sT s (b0 + 1)).2 = m) (hb1 : u.length ≤ (sT s (b1 + 1)).2) (hm : m < 4000) (hu : u.length ≤ m) (ho : okT u) : ∃ s', dm41 b0 b1 s = some s' ∧ LT s' b0 u ∧ ch (fun a k => (a = b0 ∧ k = 1) ∨ a = b0 + 1) s s' := by
  unfold dm41 dm26
  simp only [nx_eq, bu_some]
  have hc : ch (fun a k => (a = b0 ∧ k = 1) ∨ a = b0 + 1) s (wI s b0 1 0) := (ch.refl _ s).wI (Or.inl ⟨rfl, rfl⟩)
  refine d41l hd hb hb1 (by omega) hu ho u.length 0 5000 _ (by omega) (by omega) ⟨?_, fun j hj => by cases hj⟩ (h.of hc (by omega) (by omega)) hc
  rw [sI_wI, if_pos ⟨rfl, rfl⟩]
  rfl
/-- names and their quotes -/
def SQ (s : aS) (ns : List (List Int32)) : Prop := SC s ns ∧ ∀ i (h : i < ns.length), sI s 83 i = b01 (qtP ns[i])
set_option maxRecDepth 100000 in
theorem b01_and (p : Prop) : b01 p &&& 1 = b01 p := by
  rcases b01_01 p with h | h <;> rw [h] <;> rfl
set_option maxRecDepth 100000 in
theorem d40 {s : aS} {ns : List (List Int32)} (h : SC s ns) (ho : ns.length ≤ 8) (x : Int32) : dm40 x s = some (b01 (0 ≤ x.toInt ∧ x.toInt < ns.length)) := by
  unfold dm40
  rw [h.1]
  have l1 : x < 0 ↔ x.toInt < 0 := iLt
  have l2 : Int32.ofNat ns.length ≤ x ↔ (ns.length : Int) ≤ x.toInt := by rw [iLe, iOfNat (by omega)]
  by_cases h1 : x < 0
  · rw [if_pos h1, b01_f]
    have := l1.mp h1
    omega
  · rw [if_neg h1]
    have h1 : ¬ x.toInt < 0 := fun q => h1 (l1.mpr q)
    by_cases h2 : Int32.ofNat ns.length ≤ x
    · rw [if_pos h2, b01_f]
      have := l2.mp h2
      omega
    · rw [if_neg h2, b01_t]
      have h2 : ¬ (ns.length : Int) ≤ x.toInt := fun q => h2 (l2.mpr q)
      omega
set_option maxRecDepth 100000 in
/-- name number i becomes u; which letters u are stands elsewhere -/
theorem d39 {s : aS} {i b2 n9 : Nat} {u : List Int32} (hn : sI s 81 2 = Int32.ofNat n9) (hi : i < n9) (h8 : n9 ≤ 8) (hr : RC s) (g : TF s) (h : LT s b2 u) (hu : u.length ≤ 31) (ho : okT u) (h2 : u.length ≤ (sT s (b2 + 1)).2) (hd : 84 + 2 * i ≠ b2 ∧ 84 + 2 * i + 1 ≠ b2 ∧ 84 + 2 * i ≠ b2 + 1) : ∃ s', dm39 (Int32.ofNat i) b2 s = some s' ∧ LT s' (84 + 2 * i) u ∧ sI s' 83 i = b01 (qtP u) ∧ ch (fun a k => (a = 84 + 2 * i ∧ k = 1) ∨ a = 84 + 2 * i + 1 ∨ (a = 83 ∧ k = i)) s s' := by
  have e1 : (Int32.ofNat i).toInt = i := iOfNat (by omega)
  obtain ⟨s1, g1, g2, g3⟩ := d41 (b0 := 84 + 2 * i) (m := 31) h hd (by rw [show 84 + 2 * i + 1 = 85 + 2 * i by omega]; exact hr.2 i (by omega)) h2 (by decide) hu ho
  have hl : LT s1 b2 u := h.of g3 (by omega) (by omega)
  have hq := d42 hl (by rw [g3.2.1]; exact h2) (by omega) (g.of g3 (by omega))
  refine ⟨wI s1 83 i (b01 (qtP u)), ?_, ?_, ?_, ?_⟩
  · unfold dm39 dm40
    rw [hn, if_neg (by rw [iLt, e1]; show ¬ (i : Int) < 0; omega), if_neg (by rw [iLe, e1, iOfNat (by omega)]; omega)]
    simp only [bu_some]
    have ej : jN (Int32.ofNat i) = i := jN_of (by omega)
    have gj : dm41 (84 + 2 * jN (Int32.ofNat i)) b2 s = some s1 := by rw [ej]; exact g1
    rw [if_neg (by decide), if_pos (by rw [aB_iff, e1]; omega), gj]
    simp only [bu_some]
    rw [hq]
    simp only [bv_some, nx_eq]
    rw [if_pos (by rw [aB_iff, e1]; omega), b01_and, ej]
  · exact ⟨(sI_wI _ _ _ _ _ _).trans ((if_neg (by omega)).trans g2.n), fun j hj => (sI_wI _ _ _ _ _ _).trans ((if_neg (by omega)).trans (g2.c j hj))⟩
  · rw [sI_wI, if_pos ⟨rfl, rfl⟩]
  · exact (g3.mono fun a k q => by omega).wI (Or.inr (Or.inr ⟨rfl, rfl⟩))
set_option maxRecDepth 100000 in
theorem d31 {s : aS} {t : List Int32} {ns : List (List Int32)} (hs : SC s ns) (hr : RC s) (hn : nsOk ns) (hf : FB s) (h : LT s 79 t) (hl : t.length ≤ 256) (ho : okT t) (x : Int32) : dm31 79 x s = some (b01 (nmP t ∧ (fndF t ns 0 = -1 ∨ fndF t ns 0 = x))) := by
  unfold dm31 dm31_13
  rw [d32 hs hr hn h (by rw [show 79 + 1 = 80 from rfl, hr.1]; exact hl) (by omega), d36 h (by rw [show 79 + 1 = 80 from rfl, hr.1]; exact hl) (by omega) hf ho]
  simp only [bu_some]
  by_cases h1 : nmP t
  · rw [b01_t h1, if_neg (by decide)]
    by_cases h2 : fndF t ns 0 = -1
    · rw [if_pos h2, b01_t ⟨h1, Or.inl h2⟩]
    · rw [if_neg h2]
      by_cases h3 : fndF t ns 0 = x
      · rw [if_pos h3, b01_t ⟨h1, Or.inr h3⟩]
      · rw [if_neg h3, b01_f]
        rintro ⟨-, q | q⟩
        · exact h2 q
        · exact h3 q
  · rw [b01_f h1, if_pos rfl, b01_f (fun q => h1 q.1)]
set_option maxRecDepth 100000 in
/-- a new sheet -/
theorem SQ.up {s s' : aS} {ns : List (List Int32)} {i : Nat} {u : List Int32} (h : SQ s ns) (hi : i < ns.length) (hu : LT s' (84 + 2 * i) u) (hq : sI s' 83 i = b01 (qtP u)) (hc : ch (fun a k => (a = 84 + 2 * i ∧ k = 1) ∨ a = 84 + 2 * i + 1 ∨ (a = 83 ∧ k = i)) s s') : SQ s' (ns.set i u) := by
  refine ⟨⟨?_, fun j hj => ?_⟩, fun j hj => ?_⟩
  · rw [hc.i (by omega), h.1.1, List.length_set]
  · rw [List.length_set] at hj
    by_cases e : j = i
    · subst e
      rw [List.getElem_set_self]
      exact hu
    · rw [List.getElem_set_ne (fun q => e q.symm)]
      exact (h.1.2 j hj).of hc (by omega) (by omega)
  · rw [List.length_set] at hj
    by_cases e : j = i
    · subst e
      rw [List.getElem_set_self]
      exact hq
    · rw [List.getElem_set_ne (fun q => e q.symm), hc.i (by omega)]
      exact h.2 j hj
set_option maxRecDepth 100000 in
theorem d30 {s : aS} {t : List Int32} {ns : List (List Int32)} (hs : SQ s ns) (hr : RC s) (hn : nsOk ns) (hf : FB s) (g : TF s) (h : LT s 79 t) (hl : t.length ≤ 256) (ho : okT t) :
    (¬ (nmP t ∧ fndF t ns 0 = -1) ∧ dm30 s = some (.inr 0, nw s 80 0)) ∨
    ((nmP t ∧ fndF t ns 0 = -1) ∧ ns.length = 8 ∧ dm30 s = some (.inr 1, nw s 81 0)) ∨
    ((nmP t ∧ fndF t ns 0 = -1) ∧ ns.length < 8 ∧ ∃ s', dm30 s = some (.inl (some (.int (Int32.ofNat ns.length))), s') ∧ SQ s' (ns ++ [t]) ∧ ch (fun a _ => 81 ≤ a ∧ a ≤ 99) s s') := by
  have h8 := hn.1
  unfold dm30
  rw [d31 hs.1 hr hn hf h hl ho]
  simp only [bu_some]
  by_cases hq : nmP t ∧ fndF t ns 0 = -1
  · right
    rw [b01_t ⟨hq.1, Or.inl hq.2⟩, if_neg (by decide)]
    unfold dm37
    rw [hs.1.1]
    by_cases hl8 : ns.length < 8
    · right
      refine ⟨hq, hl8, ?_⟩
      rw [if_pos (by rw [iLt, iOfNat (by omega)]; show (ns.length : Int) < 8; omega)]
      simp only [bu_some]
      rw [if_pos trivial]
      unfold dm38 dm37
      rw [hs.1.1, if_pos (by rw [iLt, iOfNat (by omega)]; show (ns.length : Int) < 8; omega)]
      simp only [bu_some]
      rw [if_pos trivial, nx_eq]
      have hc1 : ch (fun a _ => 81 ≤ a ∧ a ≤ 99) s (wI s 81 2 (Int32.ofNat ns.length + 1)) := (ch.refl _ s).wI ⟨by omega, by omega⟩
      have hv : sI (wI s 81 2 (Int32.ofNat ns.length + 1)) 81 2 = Int32.ofNat (ns.length + 1) := by
        rw [sI_wI, if_pos ⟨rfl, rfl⟩, ofNat_succ (by omega)]
      have hm : Int32.ofNat (ns.length + 1) - 1 = Int32.ofNat ns.length := by
        apply Int32.toInt_inj.mp
        rw [iSub (y := 1) (by rw [iOfNat (by omega)]; show _ ≤ ((ns.length + 1 : Nat) : Int) - 1; omega) (by rw [iOfNat (by omega)]; show ((ns.length + 1 : Nat) : Int) - 1 ≤ _; omega), iOfNat (by omega), iOfNat (by omega)]
        show ((ns.length + 1 : Nat) : Int) - 1 = _
        omega
      obtain ⟨s', g1, g2, g3, g4⟩ := d39 (i := ns.length) (n9 := ns.length + 1) (b2 := 79) (u := t) hv (by omega) (by omega) (hr.of hc1) (g.of hc1 (by omega)) (h.of hc1 (by omega) (by omega)) hq.1.2.1 ho (by rw [hc1.2.1, show 79 + 1 = 80 from rfl, hr.1]; exact hl) (by omega)
      rw [hv, hm, g1]
      simp only [bu_some, bv_some]
      have hv2 : sI s' 81 2 = Int32.ofNat (ns.length + 1) := (g4.i (by omega)).trans hv
      refine ⟨s', by rw [hv2, hm], ⟨⟨?_, fun i hi => ?_⟩, fun i hi => ?_⟩, hc1.trans (g4.mono fun a k q => by omega)⟩
      · rw [hv2, List.length_append]
        rfl
      · rw [List.length_append] at hi
        have hi : i < ns.length + 1 := hi
        by_cases e : i = ns.length
        · subst e
          rw [List.getElem_append_right (Nat.le_refl _)]
          simp only [Nat.sub_self, List.getElem_cons_zero]
          exact g2
        · rw [List.getElem_append_left (by omega)]
          exact ((hs.1.2 i (by omega)).of ((ch.refl (fun a k => a = 81 ∧ k = 2) s).wI ⟨rfl, rfl⟩) (by omega) (by omega)).of g4 (by omega) (by omega)
      · rw [List.length_append] at hi
        have hi : i < ns.length + 1 := hi
        by_cases e : i = ns.length
        · subst e
          rw [List.getElem_append_right (Nat.le_refl _)]
          simp only [Nat.sub_self, List.getElem_cons_zero]
          exact g3
        · rw [List.getElem_append_left (by omega), g4.i (by omega), sI_wI, if_neg (by omega)]
          exact hs.2 i (by omega)
    · left
      refine ⟨hq, by omega, ?_⟩
      rw [if_neg (by rw [iLt, iOfNat (by omega)]; show ¬ (ns.length : Int) < 8; omega)]
      simp only [bu_some]
      rw [if_neg (by decide)]
  · left
    rw [b01_f, if_pos rfl]
    · exact ⟨hq, rfl⟩
    · rintro ⟨q1, q2 | q2⟩
      · exact hq ⟨q1, q2⟩
      · exact hq ⟨q1, q2⟩
