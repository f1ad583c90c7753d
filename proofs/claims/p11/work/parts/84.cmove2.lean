/-! a formula becomes another, moved, in FormulaTrees: the trees stand -/
def CL (s : aS) (fs : Nat → Option Fm) : Prop := ∀ f, f < 8 → fs f ≠ none → ∀ b, sR s 100 f = .ref b → ∃ u, TL s b u
set_option maxRecDepth 100000 in
theorem TL.of {A : Nat → Nat → Prop} {s s1 : aS} {b : Nat} {u : List Int32} (h : TL s b u) (g : ch A s s1) (h1 : ¬ A (b + 2) 1) (h2 : ∀ k, ¬ A (b + 3) k) : TL s1 b u := ⟨h.1.of g h1 h2, h.2⟩
set_option maxRecDepth 100000 in
theorem nt5 {a c y k : Nat} (h1 : a ≠ 101) (h2 : a ≠ c) (h3 : a ≠ c + 1) (h4 : a ≠ c + 2) (h5 : a ≠ c + 3) : ¬ ((a = 101 ∧ k = y) ∨ a = c ∨ a = c + 1 ∨ a = c + 2 ∨ a = c + 3) := by
  rintro (z | z | z | z | z)
  · exact h1 z.1
  · exact h2 z
  · exact h3 z
  · exact h4 z
  · exact h5 z
set_option maxRecDepth 100000 in
theorem d125m {tt : Nat} {cc : Nat → Nat → Int32} {s : aS} {fs : Nat → Option Fm} {x y b c : Nat} {h0 r q ho : Int32} {L : List Nd} (hl : Ly tt cc s) (h : CF s fs) (ht : TD s) (hu : CL s fs) (hx : x < 8) (hy : y < 8) (hL : fs x = some (h0, L)) (hb : sR s 100 x = .ref b) (hc : sR s 100 y = .ref c) (hbk : aK s b 3) (hck : aK s c 3) (hT : TC s b L) (hho : ho ≠ -1) : ∃ s', dm125_46 (Int32.ofNat x) r q ho (Int32.ofNat y) b c s = some (.inl none, s') ∧ CF s' (fsMove x y r q ho (fun r q => onRf (mvC r q)) L fs) ∧ TD s' ∧ CL s' (fsMove x y r q ho (fun r q => onRf (mvC r q)) L fs) ∧ ch (fun a k => (a = 101 ∧ k = y) ∨ a = c ∨ a = c + 1 ∨ a = c + 2 ∨ a = c + 3) s s' := by
  have hac := tr_at hl hck
  obtain ⟨u, hub⟩ := hu x hx (by rw [hL]; exact Option.some_ne_none _) b hb
  have exy : Int32.ofNat y = Int32.ofNat x ↔ y = x := by
    rw [iEq, iOfNat (by omega), iOfNat (by omega)]
    omega
  -- the tree holds what is to be moved
  have pre : ∃ s1, dm125_46 (Int32.ofNat x) r q ho (Int32.ofNat y) b c s = dm125_52 r q ho (Int32.ofNat y) c s1 ∧ TC s1 c L ∧ (∃ u, TL s1 c u) ∧ ch (fun a _ => a = c ∨ a = c + 1 ∨ a = c + 2 ∨ a = c + 3) s s1 := by
    unfold dm125_46
    by_cases e : y = x
    · subst e
      rw [hb] at hc
      cases hc
      rw [if_pos rfl]
      exact ⟨s, rfl, hT, ⟨u, hub⟩, ch.refl _ s⟩
    · have hbc : c ≠ b := by
        rintro rfl
        exact e (ht.2.1 y x c hy hx hc hb)
      obtain ⟨s1, g1, g2, g3, g4⟩ := d127 hl hck hbk hbc hT hub
      rw [if_neg (fun z => e (exy.mp z)), g1]
      exact ⟨s1, rfl, g2, ⟨u, g3⟩, g4⟩
  obtain ⟨s1, e1, t1, ⟨u1, l1⟩, c1⟩ := pre
  obtain ⟨s2, g1, g2, g3⟩ := d128 (r := r) (c := q) t1
  have ejy : jN (Int32.ofNat y) = y := jN_of (by omega)
  have hby : aB (Int32.ofNat y) 8 := by rw [aB_iff, iOfNat (by omega)]; omega
  have e2 : dm125_52 r q ho (Int32.ofNat y) c s1 = some (.inl none, wI s2 101 y ho) := by
    unfold dm125_52
    rw [g1]
    simp only [bu_some]
    rw [if_pos hby, nx_eq, ejy]
  have hA : ch (fun a k => (a = 101 ∧ k = y) ∨ a = c ∨ a = c + 1 ∨ a = c + 2 ∨ a = c + 3) s (wI s2 101 y ho) := ((c1.mono fun a k z => Or.inr z).trans (g3.mono fun a k z => Or.inr (Or.inr (Or.inl z)))).wI (Or.inl ⟨rfl, rfl⟩)
  have oth : ∀ f b9, f < 8 → f ≠ y → sR s 100 f = .ref b9 → aK s b9 3 → (∀ k, ¬ ((b9 = 101 ∧ k = y) ∨ b9 = c ∨ b9 = c + 1 ∨ b9 = c + 2 ∨ b9 = c + 3)) ∧ (∀ k, ¬ ((b9 + 1 = 101 ∧ k = y) ∨ b9 + 1 = c ∨ b9 + 1 = c + 1 ∨ b9 + 1 = c + 2 ∨ b9 + 1 = c + 3)) ∧ (∀ k, ¬ ((b9 + 2 = 101 ∧ k = y) ∨ b9 + 2 = c ∨ b9 + 2 = c + 1 ∨ b9 + 2 = c + 2 ∨ b9 + 2 = c + 3)) ∧ (∀ k, ¬ ((b9 + 3 = 101 ∧ k = y) ∨ b9 + 3 = c ∨ b9 + 3 = c + 1 ∨ b9 + 3 = c + 2 ∨ b9 + 3 = c + 3)) := by
    intro f b9 hf hfy hr9 hk9
    have hne : b9 ≠ c := by
      rintro rfl
      exact hfy (ht.2.1 f y b9 hf hy hr9 hc)
    obtain ⟨p1, p2, p3, p4, p5, p6, p7, p8, p9, p10⟩ := tr_ne hl hk9 hck hne
    obtain ⟨q1, -, -, -, q5, -, -, q8, -, -⟩ := tr_ne hl hck hk9 (fun z => hne z.symm)
    have a3 := tr_at hl hk9
    refine ⟨fun k => nt5 (by omega) hne (fun z => q1 z.symm) (fun z => q5 z.symm) (fun z => q8 z.symm), fun k => nt5 (by omega) p1 p2 p3 p4, fun k => nt5 (by omega) p5 p6 (by omega) p7, fun k => nt5 (by omega) p8 p9 p10 (by omega)⟩
  refine ⟨wI s2 101 y ho, e1.trans e2, fun f hf => ?_, ht.of hA (fun _ => by omega) (by omega), fun f hf hs9 b9 hr9 => ?_, hA⟩
  · unfold fsMove
    by_cases e : f = y
    · subst e
      rw [if_pos rfl]
      refine ⟨fun z => (by cases z), fun h9 L9 z => ?_⟩
      cases z
      refine ⟨by rw [sI_wI, if_pos ⟨rfl, rfl⟩], hho, c, (hA.r (by omega)).trans hc, hA.k.mpr hck, ⟨?_, g2.2.1, fun i hi w hw => ?_⟩⟩
      · rw [sI_wI, if_neg (by omega)]
        exact g2.1
      · rw [sI_wI, if_neg (by omega)]
        exact g2.2.2 i hi w hw
    · rw [if_neg e]
      obtain ⟨a1, a2⟩ := h f hf
      refine ⟨fun z => (hA.i (by omega)).trans (a1 z), fun h9 L9 z => ?_⟩
      obtain ⟨z1, z2, b9, z3, z4, z5⟩ := a2 h9 L9 z
      have o := oth f b9 hf e z3 z4
      exact ⟨(hA.i (by omega)).trans z1, z2, b9, (hA.r (by omega)).trans z3, hA.k.mpr z4, z5.of hA (o.1 2) o.2.1⟩
  · have hr0 : sR s 100 f = .ref b9 := by rw [← hA.r (a := 100) (k := f) (by omega)]; exact hr9
    by_cases e : f = y
    · subst e
      rw [hc] at hr0
      cases hr0
      exact ⟨u1, (l1.of g3 (by omega) (fun _ => by omega)).of ((ch.refl (fun a k => a = 101) s2).wI rfl) (by omega) (fun _ => by omega)⟩
    · have hs0 : fs f ≠ none := by
        unfold fsMove at hs9
        rw [if_neg e] at hs9
        exact hs9
      obtain ⟨u9, l9⟩ := hu f hf hs0 b9 hr0
      rcases ht.1 f hf with z | ⟨b8, z1, z2⟩
      · rw [z] at hr0
        cases hr0
      · rw [hr0] at z1
        cases z1
        have o := oth f b9 hf e hr0 z2
        exact ⟨u9, l9.of hA (o.2.2.1 1) o.2.2.2⟩
