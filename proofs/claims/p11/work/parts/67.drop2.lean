/-! where trees lie; drop as a whole in FormulaTrees -/
set_option maxRecDepth 100000 in
theorem tr_at {tt : Nat} {cc : Nat → Nat → Int32} {s : aS} {b : Nat} (h : Ly tt cc s) (hb : aK s b 3) : b = 102 ∨ 149 ≤ b := by
  have h3 := (h.tr hb).1
  have h78 := (h.tr hb).2.2.2.2.2.2.2
  have hz : zK = 78 := rfl
  by_cases hq : 149 ≤ b
  · exact Or.inr hq
  · left
    have key : ∀ j : Fin 71, zTt.getD j.val (0, 0) = (3, 3) → j.val = 24 := by decide +kernel
    have hj : b - 78 < 71 := by omega
    have hlen : b - 78 < zTt.length := hj
    have hg : zTt[b - 78]? = some (zTt.getD (b - 78) (0, 0)) := by
      rw [List.getD, List.getElem?_eq_getElem hlen]
      rfl
    have hT := h.T (a := b) (b - 78) hg (by rw [hz]; omega)
    have := key ⟨b - 78, hj⟩ (by rw [← hT, h3])
    have : b - 78 = 24 := this
    omega
set_option maxRecDepth 100000 in
theorem d52 {tt : Nat} {xs : List Int32} {s : aS} {ns : List (List Int32)} {fs : Nat → Option Fm} (hl : Ly tt (cCc xs) s) (hs : SQ s ns) (hn : nsOk ns) (h : CF s fs) (ht : TD s) (x : Int32) :
    (¬ (0 ≤ x.toInt ∧ x.toInt < ns.length) ∧ dm52 x s = some (.inr 2, nw s 82 0)) ∨
    ((0 ≤ x.toInt ∧ x.toInt < ns.length) ∧ ∃ s', dm52 x s = some (.inl none, s') ∧ SQ s' (ns.eraseIdx x.toInt.toNat) ∧ CF s' (fsDrop x fs) ∧ TD s' ∧ ch (fun a _ => (81 ≤ a ∧ a ≤ 101) ∨ a = 103 ∨ 149 ≤ a) s s') := by
  have h8 := hn.1
  unfold dm52
  rw [d40 hs.1 h8]
  simp only [bu_some]
  by_cases hx : 0 ≤ x.toInt ∧ x.toInt < ns.length
  · right
    refine ⟨hx, ?_⟩
    rw [b01_t hx, if_neg (by decide)]
    obtain ⟨s1, g1, g2, g3⟩ := d53 (i := x.toInt.toNat) hs (RC.ly hl) hn (TF.ly hl) (by omega)
    rw [← ofNat_of (x := x) hx.1] at g1
    have hl1 : Ly tt (cCc xs) s1 := (dt53 (sio := true) (d := 2000) (by decide) hl g1).1
    rw [g1]
    simp only [bu_some]
    have h1 : CF s1 fs := fun f hf => ⟨fun q => (g3.i (by omega)).trans ((h f hf).1 q), fun ho L q => by
      obtain ⟨a1, a2, b, a3, a4, a5⟩ := (h f hf).2 ho L q
      have hb := tr_at hl a4
      exact ⟨(g3.i (by omega)).trans a1, a2, b, (g3.r (by omega)).trans a3, g3.k.mpr a4, a5.of g3 (by omega) (fun _ => by omega)⟩⟩
    obtain ⟨s2, k1, k2, k3, k4⟩ := d52l (fs := fs) (x := x) hl1 hx.1 8 0 5000 s1 (by omega) (by omega) (fun f hf => by
      simp only [if_neg (Nat.not_lt_zero f)]
      exact h1 f hf) (ht.of g3 (by omega) (by omega)) (ch.refl _ s1)
    have k4 : ch (fun a _ => a = 101 ∨ a = 103 ∨ 149 ≤ a) s1 s2 := k4.mono fun a k q => by
      rcases q with q | ⟨b, q1, q2⟩
      · exact Or.inl q
      · have := tr_at hl1 q1
        omega
    refine ⟨s2, k1, ⟨⟨(k4.i (by omega)).trans g2.1.1, fun i hi => ?_⟩, fun i hi => (k4.i (by omega)).trans (g2.2 i hi)⟩, k2, k3, (g3.mono fun a k q => by omega).trans (k4.mono fun a k q => by omega)⟩
    have hi8 : i < 8 := by
      rw [List.length_eraseIdx_of_lt (by omega)] at hi
      omega
    exact (g2.1.2 i hi).of k4 (by omega) (fun _ => by omega)
  · left
    rw [b01_f hx, if_pos rfl]
    exact ⟨hx, rfl⟩
