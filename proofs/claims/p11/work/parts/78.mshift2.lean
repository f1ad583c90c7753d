/-! shift as a whole in the reference -/
set_option maxRecDepth 100000 in
noncomputable def fsShM (x t k n m : Int32) (fs : Nat → Option Fm) : Nat → Option Fm := fun f => match fs f with
  | none => none
  | some (h, L) => some (h, L.map (shM x t k n m h))
set_option maxRecDepth 100000 in
noncomputable def caM (x t k n m : Int32) (fs : Nat → Option Fm) : Nat → Nat → Int32 → Int32
  | 0, _, c => c
  | q + 1, f, c => caM x t k n m fs q (f + 1) (match fs f with
    | none => c
    | some (h, L) => scM x t k n m h (fun i => L.getD i (fun _ => 0)) L.length 0 c)
set_option maxRecDepth 100000 in
theorem d228f {x t k n m : Int32} {fs : Nat → Option Fm} : ∀ (q f z : Nat) (c : Int32) (s : aS), f + q = 8 → q < z → MM s (fun g => if g < f then fsShM x t k n m fs g else fs g) → ∃ s', dm228_36 z x t k n m c (Int32.ofNat f) s = some (caM x t k n m fs q f c, s') ∧ MM s' (fsShM x t k n m fs) ∧ ch (fun a _ => 128 ≤ a ∧ a ≤ 136) s s' := by
  intro q
  induction q with
  | zero =>
    intro f z c s hf hz h
    obtain ⟨z, rfl⟩ : ∃ a, z = a + 1 := ⟨z - 1, by omega⟩
    rw [dm228_36, if_pos (by rw [iLe, iOfNat (by omega)]; show (8 : Int) ≤ f; omega)]
    refine ⟨s, rfl, fun g hg => ?_, ch.refl _ s⟩
    have := h g hg
    simp only [if_pos (show g < f by omega)] at this
    exact this
  | succ q ih =>
    intro f z c s hf hz h
    obtain ⟨z, rfl⟩ : ∃ a, z = a + 1 := ⟨z - 1, by omega⟩
    have hff := h f (by omega)
    simp only [if_neg (Nat.lt_irrefl f)] at hff
    have ejf : jN (Int32.ofNat f) = f := jN_of (by omega)
    have b8 : aB (Int32.ofNat f) 8 := by rw [aB_iff, iOfNat (by omega)]; omega
    have em : 128 * Int32.ofNat f = Int32.ofNat (128 * f + 0) := by
      have := i128 (f := f) (i := 0) (by omega) (by omega)
      have z : 128 * Int32.ofNat f + Int32.ofNat 0 = 128 * Int32.ofNat f := Int32.add_zero _
      rw [z] at this
      exact this
    rw [dm228_36, if_neg (by rw [iLe, iOfNat (by omega)]; show ¬ (8 : Int) ≤ f; omega), em]
    show ∃ s', _ = some (caM x t k n m fs q (f + 1) (match fs f with | none => c | some (h, L) => scM x t k n m h (fun i => L.getD i (fun _ => 0)) L.length 0 c), s') ∧ _
    cases hq : fs f with
    | none =>
      have e0 : sI s 125 f = 0 := hff.1 hq
      rw [dm228_43]
      simp only [if_pos b8, ejf, e0]
      rw [if_pos trivial]
      unfold dm228_165
      rw [ofNat_succ (by omega)]
      refine ih (f + 1) z c s (by omega) (by omega) fun g hg => ?_
      by_cases e : g = f
      · subst e
        simp only [if_pos (Nat.lt_succ_self g)]
        have : fsShM x t k n m fs g = none := by unfold fsShM; rw [hq]
        rw [this]
        exact ⟨fun _ => e0, fun h9 L9 z => by cases z⟩
      · have hgg := h g hg
        by_cases e7 : g < f
        · simp only [if_pos e7] at hgg
          simp only [if_pos (show g < f + 1 by omega)]
          exact hgg
        · simp only [if_neg e7] at hgg
          simp only [if_neg (show ¬ g < f + 1 by omega)]
          exact hgg
    | some v =>
      obtain ⟨ho, L⟩ := v
      obtain ⟨c1, c2, c3⟩ := hff.2 ho L hq
      have h8 := c3.2.1
      obtain ⟨s1, g1, g2, g3⟩ := d228l (x := x) (t := t) (k := k) (n := n) (m := m) (ho := ho) (F := fun i => L.getD i (fun _ => 0)) (k36 := dm228_36 z) (by omega : f < 8) L.length 0 5000 c s (by omega) (by omega) c1 c2 (c3.f.cg fun i hi w hw => by
        show L.getD i (fun _ => 0) w = (if i < 0 then _ else L.getD i (fun _ => 0)) w
        rw [if_neg (by omega)])
      rw [g1]
      have t1 : TM s1 f (L.map (shM x t k n m ho)) := g2.c (by rw [List.length_map]) fun i hi w hw => by
        rw [List.length_map] at hi
        show shM x t k n m ho (L.getD i (fun _ => 0)) w = _
        rw [List.getElem_map, List.getD, List.getElem?_eq_getElem hi]
        rfl
      have g4 : ch (fun a q => (a = 125 ∧ q = f) ∨ (a = 126 ∧ q = f) ∨ ((128 ≤ a ∧ a ≤ 136) ∧ 128 * f ≤ q ∧ q < 128 * f + 128)) s s1 := g3.mono fun a q z => by omega
      obtain ⟨s', a1, a2, a3⟩ := ih (f + 1) z (scM x t k n m ho (fun i => L.getD i (fun _ => 0)) L.length 0 c) s1 (by omega) (by omega) (fun g hg => by
        by_cases e : g = f
        · subst e
          simp only [if_pos (Nat.lt_succ_self g)]
          have : fsShM x t k n m fs g = some (ho, L.map (shM x t k n m ho)) := by unfold fsShM; rw [hq]
          rw [this]
          refine ⟨fun z => (by cases z), fun h9 L9 z => ?_⟩
          cases z
          exact ⟨(g3.i (by omega)).trans c1, (g3.i (by omega)).trans c2, t1⟩
        · have hgg := h g hg
          by_cases e7 : g < f
          · simp only [if_pos e7] at hgg
            simp only [if_pos (show g < f + 1 by omega)]
            exact mm_key e hg g4 hgg
          · simp only [if_neg e7] at hgg
            simp only [if_neg (show ¬ g < f + 1 by omega)]
            exact mm_key e hg g4 hgg)
      exact ⟨s', a1, a2, (g3.mono fun a q z => z.1).trans a3⟩
/-- the last row, or column -/
def lastT (t : Int32) : Int32 := if t = 0 then 16384 else 1048576
set_option maxRecDepth 100000 in
theorem d228 {s : aS} {ns : List (List Int32)} {fs : Nat → Option Fm} (hs : SM s ns) (hn : nsOk ns) (h : MM s fs) (x t k n : Int32) :
    (¬ (0 ≤ x.toInt ∧ x.toInt < ns.length) ∧ dm228 x t k n s = some (0, wI s 121 0 1)) ∨
    ((0 ≤ x.toInt ∧ x.toInt < ns.length) ∧ ¬ (¬ bey k (lastT t) ∧ wayP n) ∧ dm228 x t k n s = some (0, wI s 121 0 2)) ∨
    ((0 ≤ x.toInt ∧ x.toInt < ns.length) ∧ (¬ bey k (lastT t) ∧ wayP n) ∧ ∃ s', dm228 x t k n s = some (caM x t k n (lastT t) fs 8 0 0, s') ∧ MM s' (fsShM x t k n (lastT t) fs) ∧ sI s' 121 0 = 0 ∧ ch (fun a k => (a = 121 ∧ k = 0) ∨ (128 ≤ a ∧ a ≤ 136)) s s') := by
  have h8 := hn.1
  have e : dm228 x t k n s = dm228_5 x t k n (lastT t) s := by
    unfold dm228 lastT
    split <;> rfl
  rw [e]
  generalize lastT t = m
  have z2 : dm228_23 x t k n m s = some (0, wI s 121 0 2) := by
    unfold dm228_23 dm228_26
    rw [nx_eq]
    exact if_neg (show ¬ (2 : Int32) ≤ 0 by decide)
  have z1 : dm228_26 x t k n m 1 s = some (0, wI s 121 0 1) := by
    unfold dm228_26
    rw [nx_eq]
    exact if_neg (show ¬ (1 : Int32) ≤ 0 by decide)
  have z0 : dm228_26 x t k n m 0 s = dm228_36 5000 x t k n m 0 0 (wI s 121 0 0) := by
    unfold dm228_26
    rw [nx_eq]
    exact if_pos (show (0 : Int32) ≤ 0 by decide)
  unfold dm228_5
  rw [d181 hs h8, d227]
  simp only [bu_some]
  by_cases hx : 0 ≤ x.toInt ∧ x.toInt < ns.length
  · right
    rw [b01_f (fun q => q hx), if_pos rfl]
    by_cases c1 : bey k m
    · left
      rw [b01_t c1, if_neg (by decide), z2]
      exact ⟨hx, fun q => q.1 c1, rfl⟩
    · rw [b01_f c1, if_pos rfl]
      have a1 : n < -1048576 ↔ n.toInt < -1048576 := iLt
      have a2 : n ≤ 1048576 ↔ n.toInt ≤ 1048576 := iLe
      by_cases c2 : n < -1048576
      · left
        rw [if_pos c2, z2]
        refine ⟨hx, fun q => ?_, rfl⟩
        have := a1.mp c2
        have := q.2.1
        omega
      · rw [if_neg c2]
        have c2 : ¬ n.toInt < -1048576 := fun q => c2 (a1.mpr q)
        by_cases c3 : n ≤ 1048576
        · right
          rw [if_pos c3, z0]
          have c3 := a2.mp c3
          obtain ⟨s', k1, k2, k3⟩ := d228f (x := x) (t := t) (k := k) (n := n) (m := m) (fs := fs) 8 0 5000 0 (wI s 121 0 0) (by omega) (by omega) (fun f hf => by
            simp only [if_neg (Nat.not_lt_zero f)]
            exact (h.of (ch0 s 0) (by omega)) f hf)
          exact ⟨hx, ⟨c1, by omega, c3⟩, s', k1, k2, (k3.i (by omega)).trans (by rw [sI_wI, if_pos ⟨rfl, rfl⟩]), ((ch0 s 0).mono fun a k q => by omega).trans (k3.mono fun a k q => by omega)⟩
        · left
          rw [if_neg c3, z2]
          exact ⟨hx, fun q => c3 (a2.mpr q.2.2), rfl⟩
  · left
    rw [b01_t hx, if_neg (by decide), z1]
    exact ⟨hx, rfl⟩
