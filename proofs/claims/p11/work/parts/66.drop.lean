/-! a sheet taken away, in FormulaTrees -/
def TD (s : aS) : Prop := (∀ f, f < 8 → sR s 100 f = .null ∨ ∃ b, sR s 100 f = .ref b ∧ aK s b 3) ∧ (∀ f g b, f < 8 → g < 8 → sR s 100 f = .ref b → sR s 100 g = .ref b → f = g) ∧ ∃ b, sR s 78 6 = .ref b ∧ aK s b 3 ∧ ∀ f, f < 8 → sR s 100 f ≠ .ref b
set_option maxRecDepth 100000 in
theorem ch.r {A : Nat → Nat → Prop} {s s1 : aS} (h : ch A s s1) {a k : Nat} (ha : ¬ A a k) : sR s1 a k = sR s a k := (h.2.2 a k ha).2.1
set_option maxRecDepth 100000 in
theorem ch.k {A : Nat → Nat → Prop} {s s1 : aS} (h : ch A s s1) {b c : Nat} : aK s1 b c ↔ aK s b c := by
  unfold aK
  rw [h.1, h.2.1]
set_option maxRecDepth 100000 in
theorem TD.of {A : Nat → Nat → Prop} {s s1 : aS} (h : TD s) (g : ch A s s1) (h1 : ∀ k, ¬ A 100 k) (h2 : ¬ A 78 6) : TD s1 := by
  obtain ⟨a1, a2, b, b1, b2, b3⟩ := h
  have e : ∀ f, sR s1 100 f = sR s 100 f := fun f => g.r (h1 f)
  refine ⟨fun f hf => ?_, fun f g9 b9 hf hg q1 q2 => a2 f g9 b9 hf hg (by rw [← e]; exact q1) (by rw [← e]; exact q2), b, (g.r h2).trans b1, g.k.mpr b2, fun f hf => by rw [e]; exact b3 f hf⟩
  rw [e]
  rcases a1 f hf with q | ⟨c, q1, q2⟩
  · exact Or.inl q
  · exact Or.inr ⟨c, q1, g.k.mpr q2⟩
set_option maxRecDepth 100000 in
/-- trees of two numbers lie apart -/
theorem tr_ne {tt : Nat} {cc : Nat → Nat → Int32} {s : aS} {b c : Nat} (h : Ly tt cc s) (hb : aK s b 3) (hc : aK s c 3) (hbc : b ≠ c) : b + 1 ≠ c ∧ b + 1 ≠ c + 1 ∧ b + 1 ≠ c + 2 ∧ b + 1 ≠ c + 3 ∧ b + 2 ≠ c ∧ b + 2 ≠ c + 1 ∧ b + 2 ≠ c + 3 ∧ b + 3 ≠ c ∧ b + 3 ≠ c + 1 ∧ b + 3 ≠ c + 2 := by
  obtain ⟨b0, -, -, -, b1, b2, b3, -⟩ := h.tr hb
  obtain ⟨c0, -, -, -, c1, c2, c3, -⟩ := h.tr hc
  refine ⟨fun e => ?_, by omega, fun e => ?_, fun e => ?_, fun e => ?_, fun e => ?_, fun e => ?_, fun e => ?_, fun e => ?_, fun e => ?_⟩
  · rw [e, c0] at b1; cases b1
  · rw [e, c2] at b1; cases b1
  · rw [e, c3] at b1; cases b1
  · rw [e, c0] at b2; cases b2
  · rw [e, c1] at b2; cases b2
  · rw [e, c3] at b2; cases b2
  · rw [e, c0] at b3; cases b3
  · rw [e, c1] at b3; cases b3
  · rw [e, c2] at b3; cases b3
set_option maxRecDepth 100000 in
/-- cells of a tree are none of those that were laid first, but for the first tree's own -/
theorem tr_lo {tt : Nat} {cc : Nat → Nat → Int32} {s : aS} {b : Nat} (h : Ly tt cc s) (hb : aK s b 3) : b + 1 ≠ 78 ∧ b + 1 ≠ 79 ∧ b + 1 ≠ 80 ∧ b + 1 ≠ 100 ∧ b + 1 ≠ 101 ∧ 78 ≤ b := by
  obtain ⟨b0, -, -, -, b1, b2, b3, b4⟩ := h.tr hb
  refine ⟨fun e => ?_, fun e => ?_, fun e => ?_, fun e => ?_, fun e => ?_, b4⟩
  · rw [e, h.T (a := 78) (p := (0, 7)) 0 rfl rfl] at b1; cases b1
  · rw [e, h.T (a := 79) (p := (1, 2)) 1 rfl rfl] at b1; cases b1
  · rw [e, h.T (a := 80) (p := (102, 256)) 2 rfl rfl] at b1; cases b1
  · rw [e, h.T (a := 100) (p := (113, 8)) 22 rfl rfl] at b1; cases b1
  · rw [e, h.T (a := 101) (p := (100, 8)) 23 rfl rfl] at b1; cases b1
set_option maxRecDepth 100000 in
theorem TC.of {A : Nat → Nat → Prop} {s s1 : aS} {b : Nat} {L : List Nd} (h : TC s b L) (g : ch A s s1) (h1 : ¬ A b 2) (h2 : ∀ k, ¬ A (b + 1) k) : TC s1 b L := ⟨(g.i h1).trans h.1, h.2.1, fun i hi w hw => (g.i (h2 _)).trans (h.2.2 i hi w hw)⟩
def fsDrop (x : Int32) (fs : Nat → Option Fm) : Nat → Option Fm := fun f => match fs f with
  | none => none
  | some (h, L) => if h = x then none else some (if h ≤ x then h else h - 1, L.map (lsN x))
set_option maxRecDepth 100000 in
theorem fAt_n {fs : Nat → Option Fm} {f : Nat} (h : f < 8) : fAt fs (Int32.ofNat f) = fs f := by
  unfold fAt
  rw [iOfNat (by omega), if_pos (by omega)]
  congr 1
set_option maxRecDepth 100000 in
theorem ly_of {tt : Nat} {cc : Nat → Nat → Int32} {s s1 : aS} {b : Nat} (h : Ly tt cc s) (hb : aK s b 3) (hc : ch (fun a _ => a = 101 ∨ a = b + 1) s s1) : ∀ c, aK s1 c 3 → aK s c 3 := fun c q => hc.k.mp q
set_option maxRecDepth 100000 in
theorem d52l {tt : Nat} {cc : Nat → Nat → Int32} {s0 : aS} {x : Int32} {fs : Nat → Option Fm} (hl : Ly tt cc s0) (hx : 0 ≤ x.toInt) : ∀ (m f n : Nat) (s : aS), f + m = 8 → m < n → CF s (fun g => if g < f then fsDrop x fs g else fs g) → TD s → ch (fun a k => a = 101 ∨ ∃ b, aK s0 b 3 ∧ a = b + 1) s0 s → ∃ s', dm52_16 n x (Int32.ofNat f) s = some (.inl none, s') ∧ CF s' (fsDrop x fs) ∧ TD s' ∧ ch (fun a k => a = 101 ∨ ∃ b, aK s0 b 3 ∧ a = b + 1) s0 s' := by
  intro m
  induction m with
  | zero =>
    intro f n s hf hn h ht hc
    obtain ⟨n, rfl⟩ : ∃ k, n = k + 1 := ⟨n - 1, by omega⟩
    rw [dm52_16, if_pos (by rw [iLe, iOfNat (by omega)]; show (8 : Int) ≤ f; omega)]
    refine ⟨s, rfl, fun g hg => ?_, ht, hc⟩
    have := h g hg
    simp only [if_pos (show g < f by omega)] at this
    exact this
  | succ m ih =>
    intro f n s hf hn h ht hc
    obtain ⟨n, rfl⟩ : ∃ k, n = k + 1 := ⟨n - 1, by omega⟩
    have hff := h f (by omega)
    simp only [if_neg (Nat.lt_irrefl f)] at hff
    have step : ∀ s1, CF s1 (fun g => if g < f + 1 then fsDrop x fs g else fs g) → TD s1 → ch (fun a k => a = 101 ∨ ∃ b, aK s0 b 3 ∧ a = b + 1) s0 s1 → ∃ s', dm52_16 n x (Int32.ofNat (f + 1)) s1 = some (.inl none, s') ∧ CF s' (fsDrop x fs) ∧ TD s' ∧ ch (fun a k => a = 101 ∨ ∃ b, aK s0 b 3 ∧ a = b + 1) s0 s' := fun s1 q1 q2 q3 => ih (f + 1) n s1 (by omega) (by omega) q1 q2 q3
    have ej : jN (Int32.ofNat f) = f := jN_of (by omega)
    have hbf : aB (Int32.ofNat f) 8 := by rw [aB_iff, iOfNat (by omega)]; omega
    rw [dm52_16, if_neg (by rw [iLe, iOfNat (by omega)]; show ¬ (8 : Int) ≤ f; omega)]
    rcases d54 h (Int32.ofNat f) with ⟨e1, e2⟩ | ⟨ho, L, b, e1, -, e2, e3, e4, e5, e6⟩
    · rw [fAt_n (by omega)] at e1
      simp only [if_neg (Nat.lt_irrefl f)] at e1
      rw [e2]
      simp only [bu_some, vN_null]
      unfold dm52_38
      rw [ofNat_succ (by omega)]
      refine step s (fun g hg => ?_) ht hc
      by_cases e : g = f
      · subst e
        simp only [if_pos (Nat.lt_succ_self g)]
        have : fsDrop x fs g = none := by unfold fsDrop; rw [e1]
        refine ⟨fun _ => hff.1 e1, fun h9 L9 q => ?_⟩
        rw [this] at q
        cases q
      · have := h g hg
        by_cases e7 : g < f
        · simp only [if_pos e7] at this
          simp only [if_pos (show g < f + 1 by omega)]
          exact this
        · simp only [if_neg e7] at this
          simp only [if_neg (show ¬ g < f + 1 by omega)]
          exact this
    · rw [fAt_n (by omega)] at e1
      simp only [if_neg (Nat.lt_irrefl f)] at e1
      rw [iOfNat (by omega)] at e5 e6
      have e5 : sR s 100 f = .ref b := e5
      have e6 : sI s 101 f = ho := e6
      have e30 : aK s0 b 3 := hc.k.mp e3
      have hlo := tr_lo hl e30
      rw [e2]
      simp only [bu_some, vN_ref]
      rw [if_pos e3]
      obtain ⟨s1, g1, g2, g3⟩ := d56 (x := x) e4
      rw [g1]
      simp only [bu_some]
      rw [if_pos hbf]
      have e61 : sI s1 101 (jN (Int32.ofNat f)) = ho := by rw [ej]; exact (g3.i (by omega)).trans e6
      rw [e61]
      have q61 : ∃ v, dm61 ho x = some v ∧ ((ho = x ∧ v = -1) ∨ (ho ≠ x ∧ v = (if ho ≤ x then ho else ho - 1))) := by
        unfold dm61
        by_cases c1 : ho = x
        · rw [if_pos c1]; exact ⟨_, rfl, Or.inl ⟨c1, rfl⟩⟩
        · rw [if_neg c1]
          by_cases c2 : ho ≤ x
          · rw [if_pos c2]; exact ⟨_, rfl, Or.inr ⟨c1, by rw [if_pos c2]⟩⟩
          · rw [if_neg c2]; exact ⟨_, rfl, Or.inr ⟨c1, by rw [if_neg c2]⟩⟩
      obtain ⟨v, v1, v2⟩ := q61
      rw [v1]
      simp only [bu_some]
      rw [if_pos hbf, nx_eq, ej]
      unfold dm52_38
      rw [ofNat_succ (by omega)]
      have hc2 : ch (fun a k => (a = 101 ∧ k = f) ∨ a = b + 1) s (wI s1 101 f v) := (g3.mono fun a k q => Or.inr q).wI (Or.inl ⟨rfl, rfl⟩)
      refine step _ (fun g hg => ?_) (ht.of hc2 (by omega) (by omega)) (hc.trans (hc2.mono fun a k q => by
        rcases q with q | q
        · exact Or.inl q.1
        · exact Or.inr ⟨b, e30, q⟩))
      by_cases e : g = f
      · subst e
        simp only [if_pos (Nat.lt_succ_self g)]
        have hv : sI (wI s1 101 g v) 101 g = v := by rw [sI_wI, if_pos ⟨rfl, rfl⟩]
        rcases v2 with ⟨c1, c2⟩ | ⟨c1, c2⟩
        · have : fsDrop x fs g = none := by unfold fsDrop; rw [e1]; simp only [if_pos c1]
          refine ⟨fun _ => hv.trans c2, fun h9 L9 q => ?_⟩
          rw [this] at q
          cases q
        · have : fsDrop x fs g = some (v, L.map (lsN x)) := by unfold fsDrop; rw [e1]; simp only [if_neg c1]; rw [c2]
          refine ⟨fun q => (by rw [this] at q; cases q), fun h9 L9 q => ?_⟩
          rw [this] at q
          cases q
          refine ⟨hv, ?_, b, (hc2.r (by omega)).trans e5, hc2.k.mpr e3, g2.of ((ch.refl (fun a k => a = 101) s1).wI rfl) (by have := (hl.tr e30).1; intro q; rw [q, hl.T (a := 101) (p := (100, 8)) 23 rfl rfl] at this; cases this) (fun _ => by omega)⟩
          have hne := (hff.2 ho L e1).2.1
          rw [c2]
          by_cases c3 : ho ≤ x
          · rw [if_pos c3]; exact hne
          · rw [if_neg c3]
            intro q
            have r1 := iRange ho
            rw [iLe] at c3
            have : (ho - 1).toInt = ho.toInt - 1 := iSub (y := 1) (by show _ ≤ ho.toInt - 1; omega) (by show ho.toInt - 1 ≤ _; omega)
            rw [iEq, this] at q
            have q : ho.toInt - 1 = -1 := q
            omega
      · have hgg := h g hg
        have key : ∀ F : Option Fm, ((F = none → sI s 101 g = -1) ∧ ∀ h9 L9, F = some (h9, L9) → sI s 101 g = h9 ∧ h9 ≠ -1 ∧ ∃ b, sR s 100 g = .ref b ∧ aK s b 3 ∧ TC s b L9) → ((F = none → sI (wI s1 101 f v) 101 g = -1) ∧ ∀ h9 L9, F = some (h9, L9) → sI (wI s1 101 f v) 101 g = h9 ∧ h9 ≠ -1 ∧ ∃ b, sR (wI s1 101 f v) 100 g = .ref b ∧ aK (wI s1 101 f v) b 3 ∧ TC (wI s1 101 f v) b L9) := by
          intro F q
          refine ⟨fun z => (hc2.i (by omega)).trans (q.1 z), fun h9 L9 z => ?_⟩
          obtain ⟨z1, z2, c, z3, z4, z5⟩ := q.2 h9 L9 z
          have hbc : b ≠ c := by
            rintro rfl
            exact e (ht.2.1 g f b hg (by omega) z3 e5)
          have z40 : aK s0 c 3 := hc.k.mp z4
          have ap := tr_ne hl e30 z40 hbc
          have lo := tr_lo hl z40
          have l3 := (hl.tr z40).1
          refine ⟨(hc2.i (by omega)).trans z1, z2, c, (hc2.r (by omega)).trans z3, hc2.k.mpr z4, z5.of hc2 ?_ (fun k => by omega)⟩
          rintro (q9 | q9)
          · rw [q9.1, hl.T (a := 101) (p := (100, 8)) 23 rfl rfl] at l3; cases l3
          · exact ap.1 q9.symm
        by_cases e7 : g < f
        · simp only [if_pos e7] at hgg
          simp only [if_pos (show g < f + 1 by omega)]
          exact key _ hgg
        · simp only [if_neg e7] at hgg
          simp only [if_neg (show ¬ g < f + 1 by omega)]
          exact key _ hgg
