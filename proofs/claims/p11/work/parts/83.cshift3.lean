/-! shift as a whole in FormulaTrees -/
def hmY (h x : Int32) : Int32 := if h = x then 1 else 0
set_option maxRecDepth 100000 in
noncomputable def fsShC (x t k n : Int32) (fs : Nat → Option Fm) : Nat → Option Fm := fun f => match fs f with
  | none => none
  | some (h, L) => some (h, L.map (shF x (hmY h x) t k n))
set_option maxRecDepth 100000 in
noncomputable def caC (x t k n : Int32) (fs : Nat → Option Fm) : Nat → Nat → Int32 → Int32
  | 0, _, c => c
  | q + 1, f, c => caC x t k n fs q (f + 1) (match fs f with
    | none => c
    | some (h, L) => c + scC x (hmY h x) t k n (fun i => L.getD i (fun _ => 0)) L.length 0 0)
set_option maxRecDepth 100000 in
theorem cf_key {tt : Nat} {cc : Nat → Nat → Int32} {s0 s s1 : aS} {b f g : Nat} {F : Option Fm} (hl : Ly tt cc s0) (h0 : ∀ c, aK s c 3 → aK s0 c 3) (hb : aK s0 b 3) (hf : sR s 100 f = .ref b) (hff : f < 8) (hg : g < 8) (hfg : g ≠ f) (ht : TD s) (hc : ch (fun a _ => a = b + 1) s s1) (h : (F = none → sI s 101 g = -1) ∧ ∀ h9 L9, F = some (h9, L9) → sI s 101 g = h9 ∧ h9 ≠ -1 ∧ ∃ b, sR s 100 g = .ref b ∧ aK s b 3 ∧ TC s b L9) : (F = none → sI s1 101 g = -1) ∧ ∀ h9 L9, F = some (h9, L9) → sI s1 101 g = h9 ∧ h9 ≠ -1 ∧ ∃ b, sR s1 100 g = .ref b ∧ aK s1 b 3 ∧ TC s1 b L9 := by
  have hat := tr_at hl hb
  refine ⟨fun z => (hc.i (by omega)).trans (h.1 z), fun h9 L9 z => ?_⟩
  obtain ⟨z1, z2, c, z3, z4, z5⟩ := h.2 h9 L9 z
  have hbc : b ≠ c := by
    rintro rfl
    exact hfg (ht.2.1 g f b hg hff z3 hf)
  have z40 := h0 c z4
  have ap := tr_ne hl hb z40 hbc
  exact ⟨(hc.i (by omega)).trans z1, z2, c, (hc.r (by omega)).trans z3, hc.k.mpr z4, z5.of hc (by omega) (fun k => by omega)⟩
set_option maxRecDepth 100000 in
theorem d133l {tt : Nat} {cc : Nat → Nat → Int32} {s0 : aS} {x t k n : Int32} {fs : Nat → Option Fm} (hl : Ly tt cc s0) : ∀ (m f z : Nat) (c : Int32) (s : aS), f + m = 8 → m < z → CF s (fun g => if g < f then fsShC x t k n fs g else fs g) → TD s → ch (fun a _ => a = 103 ∨ 149 ≤ a) s0 s → ∃ s', dm133_29 z x t k n c (Int32.ofNat f) s = some (.inl (some (.int (caC x t k n fs m f c))), s') ∧ CF s' (fsShC x t k n fs) ∧ TD s' ∧ ch (fun a _ => a = 103 ∨ 149 ≤ a) s0 s' := by
  intro m
  induction m with
  | zero =>
    intro f z c s hf hz h ht hc
    obtain ⟨z, rfl⟩ : ∃ q, z = q + 1 := ⟨z - 1, by omega⟩
    rw [dm133_29, if_pos (by rw [iLe, iOfNat (by omega)]; show (8 : Int) ≤ f; omega)]
    refine ⟨s, rfl, fun g hg => ?_, ht, hc⟩
    have := h g hg
    simp only [if_pos (show g < f by omega)] at this
    exact this
  | succ m ih =>
    intro f z c s hf hz h ht hc
    obtain ⟨z, rfl⟩ : ∃ q, z = q + 1 := ⟨z - 1, by omega⟩
    have hff := h f (by omega)
    simp only [if_neg (Nat.lt_irrefl f)] at hff
    have ej : jN (Int32.ofNat f) = f := jN_of (by omega)
    have hbf : aB (Int32.ofNat f) 8 := by rw [aB_iff, iOfNat (by omega)]; omega
    rw [dm133_29, if_neg (by rw [iLe, iOfNat (by omega)]; show ¬ (8 : Int) ≤ f; omega)]
    have ec : caC x t k n fs (m + 1) f c = caC x t k n fs m (f + 1) (match fs f with | none => c | some (h, L) => c + scC x (hmY h x) t k n (fun i => L.getD i (fun _ => 0)) L.length 0 0) := rfl
    rw [ec]
    rcases d54 h (Int32.ofNat f) with ⟨e1, e2⟩ | ⟨ho, L, b, e1, -, e2, e3, e4, e5, e6⟩
    · rw [fAt_n (by omega)] at e1
      simp only [if_neg (Nat.lt_irrefl f)] at e1
      rw [e2, e1]
      simp only [bu_some, vN_null]
      unfold dm133_56
      rw [ofNat_succ (by omega)]
      refine ih (f + 1) z c s (by omega) (by omega) (fun g hg => ?_) ht hc
      by_cases e : g = f
      · subst e
        simp only [if_pos (Nat.lt_succ_self g)]
        have : fsShC x t k n fs g = none := by unfold fsShC; rw [e1]
        rw [this]
        exact ⟨fun _ => hff.1 e1, fun h9 L9 q => by cases q⟩
      · have := h g hg
        by_cases e7 : g < f
        · simp only [if_pos e7] at this
          simp only [if_pos (show g < f + 1 by omega)]
          exact this
        · simp only [if_neg e7] at this
          simp only [if_neg (show ¬ g < f + 1 by omega)]
          exact this
    · rw [fAt_n (by omega)] at e1
      simp only [if_neg (Nat.lt_irrefl f)] at e1
      rw [iOfNat (by omega)] at e5 e6
      have e5 : sR s 100 f = .ref b := e5
      have e6 : sI s 101 f = ho := e6
      have e30 : aK s0 b 3 := hc.k.mp e3
      have hat := tr_at hl e30
      rw [e2, e1]
      simp only [bu_some, vN_ref]
      rw [if_pos e3, if_pos hbf, ej, e6]
      obtain ⟨s1, g1, g2, g3⟩ := d134 (x := x) (y := hmY ho x) (t := t) (k := k) (n := n) e4
      have e50 : dm133_50 (dm133_29 z) x t k n (Int32.ofNat f) c b x (hmY ho x) s = dm133_29 z x t k n (c + scC x (hmY ho x) t k n (fun i => L.getD i (fun _ => 0)) L.length 0 0) (Int32.ofNat (f + 1)) s1 := by
        unfold dm133_50 dm133_56
        rw [g1]
        simp only [bv_some]
        rw [ofNat_succ (by omega)]
      have ey : (if ho = x then dm133_50 (dm133_29 z) x t k n (Int32.ofNat f) c b x 1 s else dm133_50 (dm133_29 z) x t k n (Int32.ofNat f) c b x 0 s) = dm133_50 (dm133_29 z) x t k n (Int32.ofNat f) c b x (hmY ho x) s := by
        unfold hmY
        split <;> rfl
      rw [ey, e50]
      refine ih (f + 1) z _ s1 (by omega) (by omega) (fun g hg => ?_) (ht.of g3 (fun _ => by omega) (by omega)) (hc.trans (g3.mono fun a k q => by omega))
      by_cases e : g = f
      · subst e
        simp only [if_pos (Nat.lt_succ_self g)]
        have : fsShC x t k n fs g = some (ho, L.map (shF x (hmY ho x) t k n)) := by unfold fsShC; rw [e1]
        rw [this]
        refine ⟨fun q => (by cases q), fun h9 L9 q => ?_⟩
        cases q
        exact ⟨(g3.i (by omega)).trans e6, (hff.2 ho L e1).2.1, b, (g3.r (by omega)).trans e5, g3.k.mpr e3, g2⟩
      · have hgg := h g hg
        by_cases e7 : g < f
        · simp only [if_pos e7] at hgg
          simp only [if_pos (show g < f + 1 by omega)]
          exact cf_key hl (fun _ q => hc.k.mp q) e30 e5 (by omega) hg e ht g3 hgg
        · simp only [if_neg e7] at hgg
          simp only [if_neg (show ¬ g < f + 1 by omega)]
          exact cf_key hl (fun _ q => hc.k.mp q) e30 e5 (by omega) hg e ht g3 hgg
set_option maxRecDepth 100000 in
theorem d126 (x : Int32) : dm126 x = some (b01 (wayP x)) := by
  unfold dm126 wayP
  have a1 : x < -1048576 ↔ x.toInt < -1048576 := iLt
  have a2 : 1048576 < x ↔ 1048576 < x.toInt := iLt
  by_cases c1 : x < -1048576
  · rw [if_pos c1, b01_f]
    have := a1.mp c1
    omega
  · rw [if_neg c1]
    have c1 : ¬ x.toInt < -1048576 := fun q => c1 (a1.mpr q)
    by_cases c2 : 1048576 < x
    · rw [if_pos c2, b01_f]
      have := a2.mp c2
      omega
    · rw [if_neg c2, b01_t]
      have c2 : ¬ 1048576 < x.toInt := fun q => c2 (a2.mpr q)
      omega
set_option maxRecDepth 100000 in
theorem d133 {tt : Nat} {cc : Nat → Nat → Int32} {s : aS} {ns : List (List Int32)} {fs : Nat → Option Fm} (hl : Ly tt cc s) (hs : SC s ns) (hn : nsOk ns) (h : CF s fs) (ht : TD s) (x t k n : Int32) :
    (¬ (0 ≤ x.toInt ∧ x.toInt < ns.length) ∧ dm133 x t k n s = some (.inr 2, nw s 82 0)) ∨
    ((0 ≤ x.toInt ∧ x.toInt < ns.length) ∧ ¬ (¬ bey k (lastT t) ∧ wayP n) ∧ dm133 x t k n s = some (.inr 0, nw s 80 0)) ∨
    ((0 ≤ x.toInt ∧ x.toInt < ns.length) ∧ (¬ bey k (lastT t) ∧ wayP n) ∧ ∃ s', dm133 x t k n s = some (.inl (some (.int (caC x t k n fs 8 0 0))), s') ∧ CF s' (fsShC x t k n fs) ∧ TD s' ∧ ch (fun a _ => a = 103 ∨ 149 ≤ a) s s') := by
  have h8 := hn.1
  unfold dm133 dm133_20
  rw [d40 hs h8, d132, d126]
  simp only [bu_some]
  by_cases hx : 0 ≤ x.toInt ∧ x.toInt < ns.length
  · right
    rw [b01_t hx, if_neg (by decide)]
    have a1 : k < 1 ↔ k.toInt < 1 := iLt
    by_cases c1 : k < 1
    · left
      rw [if_pos c1]
      refine ⟨hx, fun q => q.1 ?_, rfl⟩
      have := a1.mp c1
      unfold bey
      omega
    · rw [if_neg c1]
      have c1 : ¬ k.toInt < 1 := fun q => c1 (a1.mpr q)
      by_cases c2 : lastT t < k
      · left
        rw [if_pos c2]
        refine ⟨hx, fun q => q.1 ?_, rfl⟩
        rw [iLt] at c2
        unfold bey
        omega
      · rw [if_neg c2]
        rw [iLt] at c2
        have hb : ¬ bey k (lastT t) := by
          unfold bey
          omega
        by_cases c3 : wayP n
        · right
          rw [b01_t c3, if_neg (by decide)]
          obtain ⟨s', k1, k2, k3, k4⟩ := d133l (x := x) (t := t) (k := k) (n := n) (fs := fs) hl 8 0 5000 0 s (by omega) (by omega) (fun f hf => by
            simp only [if_neg (Nat.not_lt_zero f)]
            exact h f hf) ht (ch.refl _ s)
          exact ⟨hx, ⟨hb, c3⟩, s', k1, k2, k3, k4⟩
        · left
          rw [b01_f c3, if_pos rfl]
          exact ⟨hx, fun q => c3 q.2, rfl⟩
  · left
    rw [b01_f hx, if_pos rfl]
    exact ⟨hx, rfl⟩
