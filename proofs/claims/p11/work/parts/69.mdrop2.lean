/-! drop as a whole in the reference -/
def fsDropM (x : Int32) (fs : Nat → Option Fm) : Nat → Option Fm := fun f => match fs f with
  | none => none
  | some (h, L) => if h = x then none else some (if h ≤ x then h else h - 1, L.map (lsM x))
set_option maxRecDepth 100000 in
theorem mm_key {s s1 : aS} {f g : Nat} {F : Option Fm} (hfg : g ≠ f) (hg : g < 8) (hc : ch (fun a q => (a = 125 ∧ q = f) ∨ (a = 126 ∧ q = f) ∨ ((128 ≤ a ∧ a ≤ 136) ∧ 128 * f ≤ q ∧ q < 128 * f + 128)) s s1) (h : (F = none → sI s 125 g = 0) ∧ ∀ ho L, F = some (ho, L) → sI s 125 g = 1 ∧ sI s 126 g = ho ∧ TM s g L) : (F = none → sI s1 125 g = 0) ∧ ∀ ho L, F = some (ho, L) → sI s1 125 g = 1 ∧ sI s1 126 g = ho ∧ TM s1 g L := by
  refine ⟨fun q => (hc.i (by omega)).trans (h.1 q), fun ho L q => ?_⟩
  obtain ⟨a1, a2, a3⟩ := h.2 ho L q
  have h8 := a3.2.1
  exact ⟨(hc.i (by omega)).trans a1, (hc.i (by omega)).trans a2, (hc.i (by omega)).trans a3.1, h8, fun i hi w hw => (hc.i (by omega)).trans (a3.2.2 i hi w hw)⟩
set_option maxRecDepth 100000 in
theorem d182f {x : Int32} {fs : Nat → Option Fm} (hx : 0 ≤ x.toInt) : ∀ (m f n : Nat) (s : aS), f + m = 8 → m < n → MM s (fun g => if g < f then fsDropM x fs g else fs g) → ∃ s', dm182_15 n x (Int32.ofNat f) s = dm182_112 5000 x s' ∧ MM s' (fsDropM x fs) ∧ ch (fun a _ => 125 ≤ a ∧ a ≤ 136) s s' := by
  intro m
  induction m with
  | zero =>
    intro f n s hf hn h
    obtain ⟨n, rfl⟩ : ∃ k, n = k + 1 := ⟨n - 1, by omega⟩
    rw [dm182_15, if_pos (by rw [iLe, iOfNat (by omega)]; show (8 : Int) ≤ f; omega)]
    refine ⟨s, rfl, fun g hg => ?_, ch.refl _ s⟩
    have := h g hg
    simp only [if_pos (show g < f by omega)] at this
    exact this
  | succ m ih =>
    intro f n s hf hn h
    obtain ⟨n, rfl⟩ : ∃ k, n = k + 1 := ⟨n - 1, by omega⟩
    have ej : jN (Int32.ofNat f) = f := jN_of (by omega)
    have hbf : aB (Int32.ofNat f) 8 := by rw [aB_iff, iOfNat (by omega)]; omega
    have hff := h f (by omega)
    simp only [if_neg (Nat.lt_irrefl f)] at hff
    -- the next one, once this one's new state is known
    have step : ∀ s1, (fsDropM x fs f = none → sI s1 125 f = 0) → (∀ ho L, fsDropM x fs f = some (ho, L) → sI s1 125 f = 1 ∧ sI s1 126 f = ho ∧ TM s1 f L) → ch (fun a q => (a = 125 ∧ q = f) ∨ (a = 126 ∧ q = f) ∨ ((128 ≤ a ∧ a ≤ 136) ∧ 128 * f ≤ q ∧ q < 128 * f + 128)) s s1 → ∃ s', dm182_15 n x (Int32.ofNat (f + 1)) s1 = dm182_112 5000 x s' ∧ MM s' (fsDropM x fs) ∧ ch (fun a _ => 125 ≤ a ∧ a ≤ 136) s s' := by
      intro s1 q1 q2 q3
      obtain ⟨s', a1, a2, a3⟩ := ih (f + 1) n s1 (by omega) (by omega) (fun g hg => by
        by_cases e : g = f
        · subst e
          simp only [if_pos (Nat.lt_succ_self g)]
          exact ⟨q1, q2⟩
        · have hgg := h g hg
          by_cases e7 : g < f
          · simp only [if_pos e7] at hgg
            simp only [if_pos (show g < f + 1 by omega)]
            exact mm_key e hg q3 hgg
          · simp only [if_neg e7] at hgg
            simp only [if_neg (show ¬ g < f + 1 by omega)]
            exact mm_key e hg q3 hgg)
      exact ⟨s', a1, a2, (q3.mono fun a q z => by omega).trans a3⟩
    have gone : fsDropM x fs f = none → ∃ s', dm182_34 (dm182_15 n) x (Int32.ofNat f) (Int32.ofNat f) s = dm182_112 5000 x s' ∧ MM s' (fsDropM x fs) ∧ ch (fun a _ => 125 ≤ a ∧ a ≤ 136) s s' := by
      intro hq
      have e : dm182_34 (dm182_15 n) x (Int32.ofNat f) (Int32.ofNat f) s = dm182_15 n x (Int32.ofNat (f + 1)) (wI s 125 f 0) := by
        unfold dm182_34 dm182_35 dm182_108
        simp only [if_pos hbf, nx_eq, ej]
        rw [show ((0 : Int32) &&& 1) = 0 by decide, if_pos (show sI (wI s 125 f 0) 125 f = 0 by rw [sI_wI, if_pos ⟨rfl, rfl⟩]), ofNat_succ (by omega)]
      rw [e]
      exact step _ (fun _ => by rw [sI_wI, if_pos ⟨rfl, rfl⟩]) (fun ho L q => by rw [hq] at q; cases q) ((ch.refl _ s).wI (Or.inl ⟨rfl, rfl⟩))
    rw [dm182_15, if_neg (by rw [iLe, iOfNat (by omega)]; show ¬ (8 : Int) ≤ f; omega), if_pos hbf]
    cases hq : fs f with
    | none =>
      have e : sI s 125 (jN (Int32.ofNat f)) = 0 := by rw [ej]; exact hff.1 hq
      rw [if_pos e]
      exact gone (by unfold fsDropM; rw [hq])
    | some v =>
      obtain ⟨ho, L⟩ := v
      obtain ⟨b1, b2, b3⟩ := hff.2 ho L hq
      have e1 : ¬ sI s 125 (jN (Int32.ofNat f)) = 0 := by rw [ej, b1]; decide
      have e2 : sI s 126 (jN (Int32.ofNat f)) = ho := by rw [ej]; exact b2
      rw [if_neg e1, if_pos hbf, e2]
      by_cases c1 : ho = x
      · rw [if_pos c1]
        exact gone (by unfold fsDropM; rw [hq]; simp only [if_pos c1])
      · rw [if_neg c1]
        have hd : fsDropM x fs f = some (if ho ≤ x then ho else ho - 1, L.map (lsM x)) := by
          unfold fsDropM
          rw [hq]
          simp only [if_neg c1]
        have hc1 : ch (fun a q => (a = 125 ∧ q = f) ∨ (a = 126 ∧ q = f) ∨ ((128 ≤ a ∧ a ≤ 136) ∧ 128 * f ≤ q ∧ q < 128 * f + 128)) s (wI (wI s 125 f 1) 126 f (if ho ≤ x then ho else ho - 1)) := ((ch.refl _ s).wI (Or.inl ⟨rfl, rfl⟩)).wI (Or.inr (Or.inl ⟨rfl, rfl⟩))
        have t1 : TM (wI (wI s 125 f 1) 126 f (if ho ≤ x then ho else ho - 1)) f L := ⟨(hc1.i (by omega)).trans b3.1, b3.2.1, fun i hi w hw => by rw [sI_wI, if_neg (by omega), sI_wI, if_neg (by omega)]; exact b3.2.2 i hi w hw⟩
        obtain ⟨s2, g1, g2, g3⟩ := d182w (x := x) (k15 := dm182_15 n) t1 (by omega) hx
        have e35 : dm182_35 (dm182_15 n) x (Int32.ofNat f) (Int32.ofNat f) 1 s = dm182_66 (dm182_15 n) 5000 x (Int32.ofNat f) (128 * Int32.ofNat f) (wI (wI s 125 f 1) 126 f (if ho ≤ x then ho else ho - 1)) := by
          unfold dm182_35 dm182_61
          simp only [if_pos hbf, nx_eq, ej]
          rw [show ((1 : Int32) &&& 1) = 1 by decide, if_neg (show ¬ sI (wI s 125 f 1) 125 f = 0 by rw [sI_wI, if_pos ⟨rfl, rfl⟩]; decide), show sI (wI s 125 f 1) 126 f = ho by rw [sI_wI, if_neg (by omega)]; exact b2]
          by_cases c2 : ho ≤ x
          · rw [if_pos c2, if_pos c2]
          · rw [if_neg c2, if_neg c2]
        rw [e35, g1]
        refine step s2 (fun q => by rw [hd] at q; cases q) (fun h9 L9 q => ?_) (hc1.trans (g3.mono fun a q z => Or.inr (Or.inr z)))
        rw [hd] at q
        cases q
        exact ⟨(g3.i (by omega)).trans (by rw [sI_wI, if_neg (by omega), sI_wI, if_pos ⟨rfl, rfl⟩]), (g3.i (by omega)).trans (by rw [sI_wI, if_pos ⟨rfl, rfl⟩]), g2⟩
set_option maxRecDepth 100000 in
theorem d182 {s : aS} {ns : List (List Int32)} {fs : Nat → Option Fm} (hs : SM s ns) (hn : nsOk ns) (h : MM s fs) (x : Int32) :
    (¬ (0 ≤ x.toInt ∧ x.toInt < ns.length) ∧ dm182 x s = some (wI s 121 0 1)) ∨
    ((0 ≤ x.toInt ∧ x.toInt < ns.length) ∧ ∃ s', dm182 x s = some s' ∧ SM s' (ns.eraseIdx x.toInt.toNat) ∧ MM s' (fsDropM x fs) ∧ sI s' 121 0 = 0 ∧ ch (fun a k => (a = 121 ∧ (k = 0 ∨ k = 3)) ∨ (123 ≤ a ∧ a ≤ 136)) s s') := by
  have h8 := hn.1
  unfold dm182
  rw [d181 hs h8]
  simp only [bu_some]
  unfold dm182_8
  by_cases hx : 0 ≤ x.toInt ∧ x.toInt < ns.length
  · right
    refine ⟨hx, ?_⟩
    rw [b01_f (fun q => q hx), if_pos rfl, nx_eq, if_pos (show sI (wI s 121 0 0) 121 0 ≤ 0 from (by decide : (0 : Int32) ≤ 0))]
    obtain ⟨s1, g1, g2, g3⟩ := d182f (x := x) (fs := fs) hx.1 8 0 5000 (wI s 121 0 0) (by omega) (by omega) (fun f hf => by
      simp only [if_neg (Nat.not_lt_zero f)]
      exact (h.of (ch0 s 0) (by omega)) f hf)
    have g1 : dm182_15 5000 x 0 (wI s 121 0 0) = dm182_112 5000 x s1 := g1
    have hs1 : SM s1 ns := ⟨(g3.i (by omega)).trans (((ch0 s 0).i (by omega)).trans hs.1), fun i hi => ⟨(g3.i (by omega)).trans (((ch0 s 0).i (by omega)).trans (hs.2 i hi).1), fun j hj => (g3.i (by omega)).trans (((ch0 s 0).i (by omega)).trans ((hs.2 i hi).2 j hj))⟩⟩
    obtain ⟨s2, k1, k2, k3⟩ := d182m (i := x.toInt.toNat) hs1 hn (by omega)
    rw [← ofNat_of (x := x) hx.1] at k1
    rw [g1]
    refine ⟨s2, k1, k2, g2.of k3 (by omega), (k3.i (by omega)).trans ((g3.i (by omega)).trans (by rw [sI_wI, if_pos ⟨rfl, rfl⟩])), (((ch0 s 0).mono fun a k q => by omega).trans (g3.mono fun a k q => by omega)).trans (k3.mono fun a k q => by omega)⟩
  · left
    refine ⟨hx, ?_⟩
    rw [b01_t hx, if_neg (by decide), nx_eq]
    exact if_neg (show ¬ (1 : Int32) ≤ 0 by decide)
