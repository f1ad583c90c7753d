/-! letters of formulas through drop, shift and move in FormulaTrees -/
set_option maxRecDepth 100000 in
theorem CLt.go {s s1 : aS} {fs : Nat → Option Fm} {lt : Nat → Nat → List Int32} (hc : CF s fs) (h : CLt s fs lt) (hr : ∀ f, f < 8 → fs f ≠ none → sR s1 100 f = sR s 100 f) (hi : ∀ f b, f < 8 → fs f ≠ none → sR s 100 f = .ref b → aK s b 3 → (∀ k, sI s1 (b + 1) k = sI s (b + 1) k) ∧ sI s1 (b + 2) 1 = sI s (b + 2) 1 ∧ ∀ k, sI s1 (b + 3) k = sI s (b + 3) k) : CLt s1 fs lt := fun f hf ho L q b hb => by
  have hn : fs f ≠ none := by
    rw [q]
    exact Option.some_ne_none _
  obtain ⟨-, -, c, a3, a4, -⟩ := (hc f hf).2 ho L q
  rw [hr f hf hn, a3] at hb
  injection hb with e
  rw [← e]
  obtain ⟨u, u1, u2⟩ := h f hf ho L q c a3
  obtain ⟨i1, i2, i3⟩ := hi f c hf hn a3 a4
  exact ⟨u, ⟨⟨i2.trans u1.1.1, fun j hj => (i3 j).trans (u1.1.2 j hj)⟩, u1.2⟩, fun i hi => by
    obtain ⟨st, e1, e2, e3⟩ := u2 i hi
    exact ⟨st, (i1 _).trans e1, (i1 _).trans e2, e3⟩⟩
set_option maxRecDepth 100000 in
theorem CLt.len {s : aS} {fs fs1 : Nat → Option Fm} {lt : Nat → Nat → List Int32} (h : CLt s fs lt) (e : ∀ f h1 L1, fs1 f = some (h1, L1) → ∃ h0 L0, fs f = some (h0, L0) ∧ L1.length = L0.length) : CLt s fs1 lt := fun f hf ho L q b hb => by
  obtain ⟨h0, L0, q1, q2⟩ := e f ho L q
  obtain ⟨u, u1, u2⟩ := h f hf h0 L0 q1 b hb
  exact ⟨u, u1, fun i hi => u2 i (by omega)⟩
set_option maxRecDepth 100000 in
theorem clt_key {tt : Nat} {cc : Nat → Nat → Int32} {s0 s s1 : aS} {b f : Nat} {fs : Nat → Option Fm} {lt : Nat → Nat → List Int32} {ho : Int32} {L : List Nd} (hl : Ly tt cc s0) (h0 : ∀ c, aK s c 3 → aK s0 c 3) (hb : aK s0 b 3) (hf : sR s 100 f = .ref b) (hff : f < 8) (ht : TD s) (hc : ch (fun a _ => a = 101 ∨ a = b + 1) s s1) (hu : CLt s fs lt) (hL : fs f = some (ho, L)) (hz : ∀ i (g : i < L.length), LZ s s1 b i L[i]) (hE : ∀ i (g : i < L.length), isRf L[i] → lt f i = []) : CLt s1 fs lt := fun g hg h9 L9 q c hr => by
  have hat := tr_at hl hb
  rw [hc.r (by omega)] at hr
  obtain ⟨u, u1, u2⟩ := hu g hg h9 L9 q c hr
  by_cases e : g = f
  · subst e
    rw [hL] at q
    cases q
    rw [hf] at hr
    injection hr with hr
    subst hr
    exact ⟨u, u1.of hc (by omega) (fun _ => by omega), fun i hi => (u2 i hi).lz (hz i hi) (hE i hi)⟩
  · have hcb : c ≠ b := fun z => e (ht.2.1 g f b hg hff (by rw [← z]; exact hr) hf)
    have hk : aK s c 3 := by
      rcases ht.1 g hg with z | ⟨d, z1, z2⟩
      · rw [z] at hr
        cases hr
      · rw [z1] at hr
        injection hr with hr
        rw [← hr]
        exact z2
    have hac := tr_at hl (h0 c hk)
    have ap := tr_ne hl (h0 c hk) hb hcb
    exact ⟨u, u1.of hc (by omega) (fun _ => by omega), fun i hi => by
      obtain ⟨st, e1, e2, e3⟩ := u2 i hi
      exact ⟨st, (hc.i (by omega)).trans e1, (hc.i (by omega)).trans e2, e3⟩⟩
set_option maxRecDepth 100000 in
theorem d52v {tt : Nat} {cc : Nat → Nat → Int32} {s0 : aS} {x : Int32} {fs : Nat → Option Fm} {lt : Nat → Nat → List Int32} (hl : Ly tt cc s0) (hx : 0 ≤ x.toInt) (hE : ∀ f, f < 8 → ∀ h L, fs f = some (h, L) → (∀ d ∈ L, d 2 = x → isRf d) ∧ ∀ i (g : i < L.length), isRf L[i] → lt f i = []) : ∀ (m f n : Nat) (s : aS), f + m = 8 → m < n → CF s (fun g => if g < f then fsDrop x fs g else fs g) → TD s → CLt s fs lt → ch (fun a k => a = 101 ∨ ∃ b, aK s0 b 3 ∧ a = b + 1) s0 s → ∃ s', dm52_16 n x (Int32.ofNat f) s = some (.inl none, s') ∧ CF s' (fsDrop x fs) ∧ TD s' ∧ CLt s' fs lt ∧ ch (fun a k => a = 101 ∨ ∃ b, aK s0 b 3 ∧ a = b + 1) s0 s' := by
  intro m
  induction m with
  | zero =>
    intro f n s hf hn h ht hu hc
    obtain ⟨n, rfl⟩ : ∃ k, n = k + 1 := ⟨n - 1, by omega⟩
    rw [dm52_16, if_pos (by rw [iLe, iOfNat (by omega)]; show (8 : Int) ≤ f; omega)]
    refine ⟨s, rfl, fun g hg => ?_, ht, hu, hc⟩
    have := h g hg
    simp only [if_pos (show g < f by omega)] at this
    exact this
  | succ m ih =>
    intro f n s hf hn h ht hu hc
    obtain ⟨n, rfl⟩ : ∃ k, n = k + 1 := ⟨n - 1, by omega⟩
    have hff := h f (by omega)
    simp only [if_neg (Nat.lt_irrefl f)] at hff
    have step : ∀ s1, CF s1 (fun g => if g < f + 1 then fsDrop x fs g else fs g) → TD s1 → CLt s1 fs lt → ch (fun a k => a = 101 ∨ ∃ b, aK s0 b 3 ∧ a = b + 1) s0 s1 → ∃ s', dm52_16 n x (Int32.ofNat (f + 1)) s1 = some (.inl none, s') ∧ CF s' (fsDrop x fs) ∧ TD s' ∧ CLt s' fs lt ∧ ch (fun a k => a = 101 ∨ ∃ b, aK s0 b 3 ∧ a = b + 1) s0 s' := fun s1 q1 q2 q4 q3 => ih (f + 1) n s1 (by omega) (by omega) q1 q2 q4 q3
    have ej : jN (Int32.ofNat f) = f := jN_of (by omega)
    have hbf : aB (Int32.ofNat f) 8 := by rw [aB_iff, iOfNat (by omega)]; omega
    rw [dm52_16, if_neg (by rw [iLe, iOfNat (by omega)]; show ¬ (8 : Int) ≤ f; omega)]
    rcases d54 h (Int32.ofNat f) with ⟨e1, e2⟩ | ⟨ho, L, b, e1, -, e2, e3, e4, e5, e6⟩
    · rw [fAt_n (by omega)] at e1
      simp only [if_neg (Nat.lt_irrefl f)] at e1
      rw [e2]
      simp only [bu_some, vN_null]
      unfold dm52_38
      rw [ofNat_succ (by omega)]
      refine step s (fun g hg => ?_) ht hu hc
      by_cases e : g = f
      · subst e
        simp only [if_pos (Nat.lt_succ_self g)]
        have : fsDrop x fs g = none := by unfold fsDrop; rw [e1]
        refine ⟨fun _ => hff.1 e1, fun h9 L9 q => ?_⟩
        rw [this] at q
        cases q
      · have := h g hg
        by_cases e7 : g < f
        · simp only [if_pos e7] at this
          simp only [if_pos (show g < f + 1 by omega)]
          exact this
        · simp only [if_neg e7] at this
          simp only [if_neg (show ¬ g < f + 1 by omega)]
          exact this
    · rw [fAt_n (by omega)] at e1
      simp only [if_neg (Nat.lt_irrefl f)] at e1
      rw [iOfNat (by omega)] at e5 e6
      have e5 : sR s 100 f = .ref b := e5
      have e6 : sI s 101 f = ho := e6
      have e30 : aK s0 b 3 := hc.k.mp e3
      have hlo := tr_lo hl e30
      rw [e2]
      simp only [bu_some, vN_ref]
      rw [if_pos e3]
      obtain ⟨s1, g1, g2, g3, g4⟩ := d56y (x := x) e4 (hE f (by omega) ho L e1).1
      rw [g1]
      simp only [bu_some]
      rw [if_pos hbf]
      have e61 : sI s1 101 (jN (Int32.ofNat f)) = ho := by rw [ej]; exact (g3.i (by omega)).trans e6
      rw [e61]
      have q61 : ∃ v, dm61 ho x = some v ∧ ((ho = x ∧ v = -1) ∨ (ho ≠ x ∧ v = (if ho ≤ x then ho else ho - 1))) := by
        unfold dm61
        by_cases c1 : ho = x
        · rw [if_pos c1]; exact ⟨_, rfl, Or.inl ⟨c1, rfl⟩⟩
        · rw [if_neg c1]
          by_cases c2 : ho ≤ x
          · rw [if_pos c2]; exact ⟨_, rfl, Or.inr ⟨c1, by rw [if_pos c2]⟩⟩
          · rw [if_neg c2]; exact ⟨_, rfl, Or.inr ⟨c1, by rw [if_neg c2]⟩⟩
      obtain ⟨v, v1, v2⟩ := q61
      rw [v1]
      simp only [bu_some]
      rw [if_pos hbf, nx_eq, ej]
      unfold dm52_38
      rw [ofNat_succ (by omega)]
      have hc2 : ch (fun a k => (a = 101 ∧ k = f) ∨ a = b + 1) s (wI s1 101 f v) := (g3.mono fun a k q => Or.inr q).wI (Or.inl ⟨rfl, rfl⟩)
      have hu2 : CLt (wI s1 101 f v) fs lt := clt_key (fs := fs) hl (fun _ q => hc.k.mp q) e30 e5 (by omega) ht (hc2.mono fun a k q => by omega) hu e1 (fun i hi => by
        have hat := tr_at hl e30
        rcases g4 i hi with z | z
        · exact Or.inl ⟨by rw [sI_wI, if_neg (by omega)]; exact z.1, by rw [sI_wI, if_neg (by omega)]; exact z.2⟩
        · exact Or.inr ⟨z.1, by rw [sI_wI, if_neg (by omega)]; exact z.2.1, by rw [sI_wI, if_neg (by omega)]; exact z.2.2⟩) (hE f (by omega) ho L e1).2
      refine step _ (fun g hg => ?_) (ht.of hc2 (by omega) (by omega)) hu2 (hc.trans (hc2.mono fun a k q => by
        rcases q with q | q
        · exact Or.inl q.1
        · exact Or.inr ⟨b, e30, q⟩))
      by_cases e : g = f
      · subst e
        simp only [if_pos (Nat.lt_succ_self g)]
        have hv : sI (wI s1 101 g v) 101 g = v := by rw [sI_wI, if_pos ⟨rfl, rfl⟩]
        rcases v2 with ⟨c1, c2⟩ | ⟨c1, c2⟩
        · have : fsDrop x fs g = none := by unfold fsDrop; rw [e1]; simp only [if_pos c1]
          refine ⟨fun _ => hv.trans c2, fun h9 L9 q => ?_⟩
          rw [this] at q
          cases q
        · have : fsDrop x fs g = some (v, L.map (lsN x)) := by unfold fsDrop; rw [e1]; simp only [if_neg c1]; rw [c2]
          refine ⟨fun q => (by rw [this] at q; cases q), fun h9 L9 q => ?_⟩
          rw [this] at q
          cases q
          refine ⟨hv, ?_, b, (hc2.r (by omega)).trans e5, hc2.k.mpr e3, g2.of ((ch.refl (fun a k => a = 101) s1).wI rfl) (by have := (hl.tr e30).1; intro q; rw [q, hl.T (a := 101) (p := (100, 8)) 23 rfl rfl] at this; cases this) (fun _ => by omega)⟩
          have hne := (hff.2 ho L e1).2.1
          rw [c2]
          by_cases c3 : ho ≤ x
          · rw [if_pos c3]; exact hne
          · rw [if_neg c3]
            intro q
            have r1 := iRange ho
            rw [iLe] at c3
            have : (ho - 1).toInt = ho.toInt - 1 := iSub (y := 1) (by show _ ≤ ho.toInt - 1; omega) (by show ho.toInt - 1 ≤ _; omega)
            rw [iEq, this] at q
            have q : ho.toInt - 1 = -1 := q
            omega
      · have hgg := h g hg
        have key : ∀ F : Option Fm, ((F = none → sI s 101 g = -1) ∧ ∀ h9 L9, F = some (h9, L9) → sI s 101 g = h9 ∧ h9 ≠ -1 ∧ ∃ b, sR s 100 g = .ref b ∧ aK s b 3 ∧ TC s b L9) → ((F = none → sI (wI s1 101 f v) 101 g = -1) ∧ ∀ h9 L9, F = some (h9, L9) → sI (wI s1 101 f v) 101 g = h9 ∧ h9 ≠ -1 ∧ ∃ b, sR (wI s1 101 f v) 100 g = .ref b ∧ aK (wI s1 101 f v) b 3 ∧ TC (wI s1 101 f v) b L9) := by
          intro F q
          refine ⟨fun z => (hc2.i (by omega)).trans (q.1 z), fun h9 L9 z => ?_⟩
          obtain ⟨z1, z2, c, z3, z4, z5⟩ := q.2 h9 L9 z
          have hbc : b ≠ c := by
            rintro rfl
            exact e (ht.2.1 g f b hg (by omega) z3 e5)
          have z40 : aK s0 c 3 := hc.k.mp z4
          have ap := tr_ne hl e30 z40 hbc
          have lo := tr_lo hl z40
          have l3 := (hl.tr z40).1
          refine ⟨(hc2.i (by omega)).trans z1, z2, c, (hc2.r (by omega)).trans z3, hc2.k.mpr z4, z5.of hc2 ?_ (fun k => by omega)⟩
          rintro (q9 | q9)
          · rw [q9.1, hl.T (a := 101) (p := (100, 8)) 23 rfl rfl] at l3; cases l3
          · exact ap.1 q9.symm
        by_cases e7 : g < f
        · simp only [if_pos e7] at hgg
          simp only [if_pos (show g < f + 1 by omega)]
          exact key _ hgg
        · simp only [if_neg e7] at hgg
          simp only [if_neg (show ¬ g < f + 1 by omega)]
          exact key _ hgg
set_option maxRecDepth 100000 in
theorem d52y {tt : Nat} {xs : List Int32} {s s9 : aS} {ns : List (List Int32)} {fs : Nat → Option Fm} {lt : Nat → Nat → List Int32} {x : Int32} (hl : Ly tt (cCc xs) s) (hs : SQ s ns) (hn : nsOk ns) (h : CF s fs) (ht : TD s) (hu : CLt s fs lt) (hx : 0 ≤ x.toInt ∧ x.toInt < ns.length) (hE : ∀ f, f < 8 → ∀ h L, fs f = some (h, L) → (∀ d ∈ L, d 2 = x → isRf d) ∧ ∀ i (g : i < L.length), isRf L[i] → lt f i = []) (he : dm52 x s = some (.inl none, s9)) : CLt s9 fs lt := by
  have h8 := hn.1
  unfold dm52 at he
  rw [d40 hs.1 h8] at he
  simp only [bu_some] at he
  rw [b01_t hx, if_neg (by decide)] at he
  obtain ⟨s1, g1, g2, g3⟩ := d53 (i := x.toInt.toNat) hs (RC.ly hl) hn (TF.ly hl) (by omega)
  rw [← ofNat_of (x := x) hx.1] at g1
  have hl1 : Ly tt (cCc xs) s1 := (dt53 (sio := true) (d := 2000) (by decide) hl g1).1
  rw [g1] at he
  simp only [bu_some] at he
  have h1 : CF s1 fs := fun f hf => ⟨fun q => (g3.i (by omega)).trans ((h f hf).1 q), fun ho L q => by
    obtain ⟨a1, a2, b, a3, a4, a5⟩ := (h f hf).2 ho L q
    have hb := tr_at hl a4
    exact ⟨(g3.i (by omega)).trans a1, a2, b, (g3.r (by omega)).trans a3, g3.k.mpr a4, a5.of g3 (by omega) (fun _ => by omega)⟩⟩
  have u1 : CLt s1 fs lt := CLt.go h hu (fun f _ _ => g3.r (by omega)) (fun f b _ _ _ hk => by
    have hb := tr_at hl hk
    exact ⟨fun k => g3.i (by omega), g3.i (by omega), fun k => g3.i (by omega)⟩)
  obtain ⟨s2, k1, -, -, k5, -⟩ := d52v (fs := fs) (lt := lt) (x := x) hl1 hx.1 hE 8 0 5000 s1 (by omega) (by omega) (fun f hf => by
    simp only [if_neg (Nat.not_lt_zero f)]
    exact h1 f hf) (ht.of g3 (by omega) (by omega)) u1 (ch.refl _ s1)
  have k1 : dm52_16 5000 x 0 s1 = some (.inl none, s2) := k1
  rw [k1] at he
  have e : s2 = s9 := (Prod.mk.inj (Option.some.inj he)).2
  rw [← e]
  exact k5
set_option maxRecDepth 100000 in
theorem d133v {tt : Nat} {cc : Nat → Nat → Int32} {s0 : aS} {x t k n : Int32} {fs : Nat → Option Fm} {lt : Nat → Nat → List Int32} (hl : Ly tt cc s0) (hE : ∀ f, f < 8 → ∀ h L, fs f = some (h, L) → ∀ i (g : i < L.length), isRf L[i] → lt f i = []) : ∀ (m f z : Nat) (c : Int32) (s : aS), f + m = 8 → m < z → CF s (fun g => if g < f then fsShC x t k n fs g else fs g) → TD s → CLt s fs lt → ch (fun a _ => a = 103 ∨ 149 ≤ a) s0 s → ∃ s', dm133_29 z x t k n c (Int32.ofNat f) s = some (.inl (some (.int (caC x t k n fs m f c))), s') ∧ CF s' (fsShC x t k n fs) ∧ TD s' ∧ CLt s' fs lt ∧ ch (fun a _ => a = 103 ∨ 149 ≤ a) s0 s' := by
  intro m
  induction m with
  | zero =>
    intro f z c s hf hz h ht hu hc
    obtain ⟨z, rfl⟩ : ∃ q, z = q + 1 := ⟨z - 1, by omega⟩
    rw [dm133_29, if_pos (by rw [iLe, iOfNat (by omega)]; show (8 : Int) ≤ f; omega)]
    refine ⟨s, rfl, fun g hg => ?_, ht, hu, hc⟩
    have := h g hg
    simp only [if_pos (show g < f by omega)] at this
    exact this
  | succ m ih =>
    intro f z c s hf hz h ht hu hc
    obtain ⟨z, rfl⟩ : ∃ q, z = q + 1 := ⟨z - 1, by omega⟩
    have hff := h f (by omega)
    simp only [if_neg (Nat.lt_irrefl f)] at hff
    have ej : jN (Int32.ofNat f) = f := jN_of (by omega)
    have hbf : aB (Int32.ofNat f) 8 := by rw [aB_iff, iOfNat (by omega)]; omega
    rw [dm133_29, if_neg (by rw [iLe, iOfNat (by omega)]; show ¬ (8 : Int) ≤ f; omega)]
    have ec : caC x t k n fs (m + 1) f c = caC x t k n fs m (f + 1) (match fs f with | none => c | some (h, L) => c + scC x (hmY h x) t k n (fun i => L.getD i (fun _ => 0)) L.length 0 0) := rfl
    rw [ec]
    rcases d54 h (Int32.ofNat f) with ⟨e1, e2⟩ | ⟨ho, L, b, e1, -, e2, e3, e4, e5, e6⟩
    · rw [fAt_n (by omega)] at e1
      simp only [if_neg (Nat.lt_irrefl f)] at e1
      rw [e2, e1]
      simp only [bu_some, vN_null]
      unfold dm133_56
      rw [ofNat_succ (by omega)]
      refine ih (f + 1) z c s (by omega) (by omega) (fun g hg => ?_) ht hu hc
      by_cases e : g = f
      · subst e
        simp only [if_pos (Nat.lt_succ_self g)]
        have : fsShC x t k n fs g = none := by unfold fsShC; rw [e1]
        rw [this]
        exact ⟨fun _ => hff.1 e1, fun h9 L9 q => by cases q⟩
      · have := h g hg
        by_cases e7 : g < f
        · simp only [if_pos e7] at this
          simp only [if_pos (show g < f + 1 by omega)]
          exact this
        · simp only [if_neg e7] at this
          simp only [if_neg (show ¬ g < f + 1 by omega)]
          exact this
    · rw [fAt_n (by omega)] at e1
      simp only [if_neg (Nat.lt_irrefl f)] at e1
      rw [iOfNat (by omega)] at e5 e6
      have e5 : sR s 100 f = .ref b := e5
      have e6 : sI s 101 f = ho := e6
      have e30 : aK s0 b 3 := hc.k.mp e3
      have hat := tr_at hl e30
      rw [e2, e1]
      simp only [bu_some, vN_ref]
      rw [if_pos e3, if_pos hbf, ej, e6]
      obtain ⟨s1, g1, g2, g3, g4⟩ := d134z (x := x) (y := hmY ho x) (t := t) (k := k) (n := n) e4
      have e50 : dm133_50 (dm133_29 z) x t k n (Int32.ofNat f) c b x (hmY ho x) s = dm133_29 z x t k n (c + scC x (hmY ho x) t k n (fun i => L.getD i (fun _ => 0)) L.length 0 0) (Int32.ofNat (f + 1)) s1 := by
        unfold dm133_50 dm133_56
        rw [g1]
        simp only [bv_some]
        rw [ofNat_succ (by omega)]
      have ey : (if ho = x then dm133_50 (dm133_29 z) x t k n (Int32.ofNat f) c b x 1 s else dm133_50 (dm133_29 z) x t k n (Int32.ofNat f) c b x 0 s) = dm133_50 (dm133_29 z) x t k n (Int32.ofNat f) c b x (hmY ho x) s := by
        unfold hmY
        split <;> rfl
      rw [ey, e50]
      refine ih (f + 1) z _ s1 (by omega) (by omega) (fun g hg => ?_) (ht.of g3 (fun _ => by omega) (by omega)) (clt_key (fs := fs) hl (fun _ q => hc.k.mp q) e30 e5 (by omega) ht (g3.mono fun a k q => Or.inr q) hu e1 g4 (hE f (by omega) ho L e1)) (hc.trans (g3.mono fun a k q => by omega))
      by_cases e : g = f
      · subst e
        simp only [if_pos (Nat.lt_succ_self g)]
        have : fsShC x t k n fs g = some (ho, L.map (shF x (hmY ho x) t k n)) := by unfold fsShC; rw [e1]
        rw [this]
        refine ⟨fun q => (by cases q), fun h9 L9 q => ?_⟩
        cases q
        exact ⟨(g3.i (by omega)).trans e6, (hff.2 ho L e1).2.1, b, (g3.r (by omega)).trans e5, g3.k.mpr e3, g2⟩
      · have hgg := h g hg
        by_cases e7 : g < f
        · simp only [if_pos e7] at hgg
          simp only [if_pos (show g < f + 1 by omega)]
          exact cf_key hl (fun _ q => hc.k.mp q) e30 e5 (by omega) hg e ht g3 hgg
        · simp only [if_neg e7] at hgg
          simp only [if_neg (show ¬ g < f + 1 by omega)]
          exact cf_key hl (fun _ q => hc.k.mp q) e30 e5 (by omega) hg e ht g3 hgg
set_option maxRecDepth 100000 in
theorem d133y {tt : Nat} {cc : Nat → Nat → Int32} {s s9 : aS} {ns : List (List Int32)} {fs : Nat → Option Fm} {lt : Nat → Nat → List Int32} {x t k n : Int32} {o : xZ} (hl : Ly tt cc s) (hs : SC s ns) (hn : nsOk ns) (h : CF s fs) (ht : TD s) (hu : CLt s fs lt) (hE : ∀ f, f < 8 → ∀ h L, fs f = some (h, L) → ∀ i (g : i < L.length), isRf L[i] → lt f i = []) (hx : 0 ≤ x.toInt ∧ x.toInt < ns.length) (hk : ¬ bey k (lastT t) ∧ wayP n) (he : dm133 x t k n s = some (o, s9)) : CLt s9 fs lt := by
  have h8 := hn.1
  unfold dm133 dm133_20 at he
  rw [d40 hs h8, d132, d126] at he
  simp only [bu_some] at he
  have a1 : k < 1 ↔ k.toInt < 1 := iLt
  have c1 : ¬ k < 1 := fun q => hk.1 (by
    have := a1.mp q
    unfold bey
    omega)
  have c2 : ¬ lastT t < k := fun q => hk.1 (by
    rw [iLt] at q
    unfold bey
    omega)
  rw [b01_t hx, if_neg (by decide), if_neg c1, if_neg c2, b01_t hk.2, if_neg (by decide)] at he
  obtain ⟨s2, k1, -, -, k5, -⟩ := d133v (x := x) (t := t) (k := k) (n := n) (fs := fs) (lt := lt) hl hE 8 0 5000 0 s (by omega) (by omega) (fun f hf => by
    simp only [if_neg (Nat.not_lt_zero f)]
    exact h f hf) ht hu (ch.refl _ s)
  have k1 : dm133_29 5000 x t k n 0 0 s = some (.inl (some (.int (caC x t k n fs 8 0 0))), s2) := k1
  rw [k1] at he
  have e : s2 = s9 := (Prod.mk.inj (Option.some.inj he)).2
  rw [← e]
  exact k5
set_option maxRecDepth 100000 in
theorem d127y {tt : Nat} {cc : Nat → Nat → Int32} {s : aS} {b c : Nat} {L : List Nd} {u : List Int32} (hl : Ly tt cc s) (hb : aK s b 3) (hc : aK s c 3) (hbc : b ≠ c) (h : TC s c L) (hu : TL s c u) : ∃ s', dm127 b c s = some s' ∧ TC s' b L ∧ TL s' b u ∧ ch (fun a _ => a = b ∨ a = b + 1 ∨ a = b + 2 ∨ a = b + 3) s s' ∧ ∀ k, k < 1408 → sI s' (b + 1) k = sI s (c + 1) k := by
  have ap := tr_ne hl hb hc hbc
  have b3 := (hl.tr hb).2.2.2.2.2.2.1
  have c3 := (hl.tr hc).2.2.2.2.2.2.1
  have b0 := (hl.tr hb).1
  have j0 : jN 0 = 0 := rfl
  have j1 : jN 1408 = 1408 := rfl
  have n1 : b ≠ c + 1 := by
    rintro e
    have := (hl.tr hc).2.2.2.2.1
    rw [← e, b0] at this
    cases this
  have n2 : b ≠ c + 2 := by
    rintro e
    have := (hl.tr hc).2.2.2.2.2.1
    rw [← e, b0] at this
    cases this
  have n3 : b ≠ c + 3 := by
    rintro e
    rw [← e, b0] at c3
    cases c3
  have hc1 : ch (fun a _ => a = b ∨ a = b + 1 ∨ a = b + 2 ∨ a = b + 3) s (cpI (wI s b 2 (sI s c 2)) (c + 1) 0 (b + 1) 0 1408) := ch_cp ((ch.refl _ s).wI (Or.inl rfl)) (fun _ => Or.inr (Or.inl rfl))
  have hu1 : LT (cpI (wI s b 2 (sI s c 2)) (c + 1) 0 (b + 1) 0 1408) (c + 2) u := hu.1.of hc1 (by omega) (fun _ => by omega)
  obtain ⟨s', g1, g2, g3⟩ := d41 (b0 := b + 2) (m := 256) hu1 (by omega) (by rw [hc1.2.1, show b + 2 + 1 = b + 3 from rfl, b3]) (by rw [hc1.2.1, show c + 2 + 1 = c + 3 from rfl, c3]; exact hu.2.1) (by decide) hu.2.1 hu.2.2
  refine ⟨s', ?_, ⟨?_, h.2.1, fun i hi w hw => ?_⟩, ⟨g2, hu.2⟩, hc1.trans (g3.mono fun a k q => by omega), fun k hk => ?_⟩
  · unfold dm127
    rw [nx_eq, if_pos ⟨by omega, by decide, by decide, by decide, by decide, by decide⟩, nx_eq, j0, j1, g1]
    rfl
  · rw [g3.i (by omega), sI_cp, if_neg (by omega), sI_wI, if_pos ⟨rfl, rfl⟩]
    exact h.1
  · have h8 := h.2.1
    rw [g3.i (by omega), sI_cp, if_pos ⟨rfl, by omega, by omega⟩, Nat.zero_add, Nat.sub_zero, sI_wI, if_neg (by omega)]
    exact h.2.2 i hi w hw
  · rw [g3.i (by omega), sI_cp, if_pos ⟨rfl, by omega, by omega⟩, Nat.zero_add, Nat.sub_zero, sI_wI, if_neg (by omega)]
set_option maxRecDepth 100000 in
theorem d125n {tt : Nat} {cc : Nat → Nat → Int32} {s s9 : aS} {fs : Nat → Option Fm} {lt : Nat → Nat → List Int32} {x y b c : Nat} {h0 r q ho : Int32} {L : List Nd} {o : xZ} (hl : Ly tt cc s) (h : CF s fs) (ht : TD s) (hu : CLt s fs lt) (hx : x < 8) (hy : y < 8) (hL : fs x = some (h0, L)) (hb : sR s 100 x = .ref b) (hc : sR s 100 y = .ref c) (hbk : aK s b 3) (hck : aK s c 3) (hT : TC s b L) (hE : ∀ i (g : i < L.length), isRf L[i] → lt x i = []) (he : dm125_46 (Int32.ofNat x) r q ho (Int32.ofNat y) b c s = some (o, s9)) : CLt s9 (fsMove x y r q ho (fun r q => onRf (mvC r q)) L fs) (ltMv lt x y) := by
  have hac := tr_at hl hck
  obtain ⟨u, hub, hnl⟩ := hu x hx h0 L hL b hb
  have exy : Int32.ofNat y = Int32.ofNat x ↔ y = x := by
    rw [iEq, iOfNat (by omega), iOfNat (by omega)]
    omega
  have pre : ∃ s1, dm125_46 (Int32.ofNat x) r q ho (Int32.ofNat y) b c s = dm125_52 r q ho (Int32.ofNat y) c s1 ∧ TC s1 c L ∧ TL s1 c u ∧ (∀ i, i < L.length → NL s1 c i u (lt x i)) ∧ ch (fun a _ => a = c ∨ a = c + 1 ∨ a = c + 2 ∨ a = c + 3) s s1 := by
    unfold dm125_46
    by_cases e : y = x
    · subst e
      rw [hb] at hc
      cases hc
      rw [if_pos rfl]
      exact ⟨s, rfl, hT, hub, hnl, ch.refl _ s⟩
    · have hbc : c ≠ b := by
        rintro rfl
        exact e (ht.2.1 y x c hy hx hc hb)
      obtain ⟨s1, g1, g2, g3, g4, g5⟩ := d127y hl hck hbk hbc hT hub
      have h128 := hT.2.1
      rw [if_neg (fun z => e (exy.mp z)), g1]
      exact ⟨s1, rfl, g2, g3, fun i hi => by
        obtain ⟨st, e1, e2, e3⟩ := hnl i hi
        exact ⟨st, (g5 _ (by omega)).trans e1, (g5 _ (by omega)).trans e2, e3⟩, g4⟩
  obtain ⟨s1, e1, t1, l1, n1, c1⟩ := pre
  obtain ⟨s2, g1, g2, g3, g4⟩ := d128y (r := r) (c := q) t1
  have ejy : jN (Int32.ofNat y) = y := jN_of (by omega)
  have hby : aB (Int32.ofNat y) 8 := by rw [aB_iff, iOfNat (by omega)]; omega
  have e2 : dm125_52 r q ho (Int32.ofNat y) c s1 = some (.inl none, wI s2 101 y ho) := by
    unfold dm125_52
    rw [g1]
    simp only [bu_some]
    rw [if_pos hby, nx_eq, ejy]
  have hA : ch (fun a k => (a = 101 ∧ k = y) ∨ a = c ∨ a = c + 1 ∨ a = c + 2 ∨ a = c + 3) s (wI s2 101 y ho) := ((c1.mono fun a k z => Or.inr z).trans (g3.mono fun a k z => Or.inr (Or.inr (Or.inl z)))).wI (Or.inl ⟨rfl, rfl⟩)
  have oth : ∀ f b9, f < 8 → f ≠ y → sR s 100 f = .ref b9 → aK s b9 3 → (∀ k, ¬ ((b9 = 101 ∧ k = y) ∨ b9 = c ∨ b9 = c + 1 ∨ b9 = c + 2 ∨ b9 = c + 3)) ∧ (∀ k, ¬ ((b9 + 1 = 101 ∧ k = y) ∨ b9 + 1 = c ∨ b9 + 1 = c + 1 ∨ b9 + 1 = c + 2 ∨ b9 + 1 = c + 3)) ∧ (∀ k, ¬ ((b9 + 2 = 101 ∧ k = y) ∨ b9 + 2 = c ∨ b9 + 2 = c + 1 ∨ b9 + 2 = c + 2 ∨ b9 + 2 = c + 3)) ∧ (∀ k, ¬ ((b9 + 3 = 101 ∧ k = y) ∨ b9 + 3 = c ∨ b9 + 3 = c + 1 ∨ b9 + 3 = c + 2 ∨ b9 + 3 = c + 3)) := by
    intro f b9 hf hfy hr9 hk9
    have hne : b9 ≠ c := by
      rintro rfl
      exact hfy (ht.2.1 f y b9 hf hy hr9 hc)
    obtain ⟨p1, p2, p3, p4, p5, p6, p7, p8, p9, p10⟩ := tr_ne hl hk9 hck hne
    obtain ⟨q1, -, -, -, q5, -, -, q8, -, -⟩ := tr_ne hl hck hk9 (fun z => hne z.symm)
    have a3 := tr_at hl hk9
    refine ⟨fun k => nt5 (by omega) hne (fun z => q1 z.symm) (fun z => q5 z.symm) (fun z => q8 z.symm), fun k => nt5 (by omega) p1 p2 p3 p4, fun k => nt5 (by omega) p5 p6 (by omega) p7, fun k => nt5 (by omega) p8 p9 p10 (by omega)⟩
  rw [e1, e2] at he
  have e9 : wI s2 101 y ho = s9 := (Prod.mk.inj (Option.some.inj he)).2
  rw [← e9]
  intro f hf h9 L9 q9 b9 hr9
  have hr0 : sR s 100 f = .ref b9 := by rw [← hA.r (a := 100) (k := f) (by omega)]; exact hr9
  unfold fsMove at q9
  unfold ltMv
  by_cases e : f = y
  · rw [if_pos e] at q9
    have eL : L9 = L.map (onRf (mvC r q)) := (Prod.mk.inj (Option.some.inj q9)).2.symm
    rw [e, hc] at hr0
    injection hr0 with hr0
    have h2 : ch (fun a k => a = 101) s2 (wI s2 101 y ho) := (ch.refl _ s2).wI rfl
    rw [← hr0]
    refine ⟨u, (l1.of g3 (by omega) (fun _ => by omega)).of h2 (by omega) (fun _ => by omega), fun i hi => ?_⟩
    rw [eL, List.length_map] at hi
    rw [if_pos e]
    obtain ⟨st, z1, z2, z3⟩ := (n1 i hi).lz (g4 i hi) (hE i hi)
    exact ⟨st, (h2.i (by omega)).trans z1, (h2.i (by omega)).trans z2, z3⟩
  · rw [if_neg e] at q9
    obtain ⟨u9, l9, n9⟩ := hu f hf h9 L9 q9 b9 hr0
    rcases ht.1 f hf with z | ⟨b8, z1, z2⟩
    · rw [z] at hr0
      cases hr0
    · rw [hr0] at z1
      injection z1 with z1
      have o := oth f b9 hf e hr0 (by rw [z1]; exact z2)
      refine ⟨u9, l9.of hA (o.2.2.1 1) o.2.2.2, fun i hi => ?_⟩
      rw [if_neg e]
      obtain ⟨st, z1, z2, z3⟩ := n9 i hi
      exact ⟨st, (hA.i (o.2.1 _)).trans z1, (hA.i (o.2.1 _)).trans z2, z3⟩
set_option maxRecDepth 100000 in
theorem d125y {tt : Nat} {cc : Nat → Nat → Int32} {s s9 : aS} {ns : List (List Int32)} {fs : Nat → Option Fm} {lt : Nat → Nat → List Int32} {x1 x2 x3 x4 x5 h0 : Int32} {L : List Nd} {o : xZ} (hl : Ly tt cc s) (hs : SC s ns) (hn : nsOk ns) (h : CF s fs) (ht : TD s) (hu : CLt s fs lt) (hV : mvV ns fs x1 x4 x5) (hW : wayP x2 ∧ wayP x3) (e0 : fAt fs x1 = some (h0, L)) (hE : ∀ i (g : i < L.length), isRf L[i] → lt x1.toInt.toNat i = []) (he : dm125 x1 x2 x3 x4 x5 s = some (o, s9)) : CLt s9 (fsMove x1.toInt.toNat x5.toInt.toNat x2 x3 x4 (fun r c => onRf (mvC r c)) L fs) (ltMv lt x1.toInt.toNat x5.toInt.toNat) := by
  have h8 := hn.1
  obtain ⟨c1, -, c2⟩ := hV
  obtain ⟨hx, hL⟩ := fAt_s e0
  have e55 : dm55 x5 = some 1 := by
    rcases y55 x5 with ⟨z, -⟩ | ⟨-, z⟩
    · exact absurd c1 z
    · exact z
  unfold dm125 dm125_14 dm125_25 at he
  rcases d54 h x1 with ⟨e1, -⟩ | ⟨h9, L9, b, e1, -, e2, e3, e4, e5, -⟩
  · rw [e0] at e1
    cases e1
  · have eq := (Prod.mk.inj (Option.some.inj (e1.symm.trans e0))).2
    rw [eq] at e4
    have hb5 : aB x5 8 := aB_iff.mpr c1
    have ex1 := ofNat_of (x := x1) hx.1
    have ex5 := ofNat_of (x := x5) c1.1
    rw [e2, e55, d40 hs h8, d126, d126] at he
    simp only [bu_some, vN_ref] at he
    rw [if_pos e3, if_neg (by decide), b01_t c2, if_neg (by decide), b01_t hW.1, if_neg (by decide), b01_t hW.2, if_neg (by decide)] at he
    simp only [if_pos hb5] at he
    rcases ht.1 x5.toInt.toNat (by omega) with z | ⟨c, z1, z2⟩
    · have z0 : sR s 100 (jN x5) = .null := z
      rw [z0] at he
      simp only [vN_null, nx_eq] at he
      have cl : CL s fs := fun f hf hs9 b9 hb9 => by
        cases hq : fs f with
        | none => exact absurd hq hs9
        | some v =>
          obtain ⟨h7, L7⟩ := v
          obtain ⟨u, u1, -⟩ := hu f hf h7 L7 hq b9 hb9
          exact ⟨u, u1⟩
      obtain ⟨n1, n2, n3, -, n5⟩ := nT_all (y := x5.toInt.toNat) hl h ht cl (by omega) z
      have hbl := (hl.tr e3).2.2.2.1
      have hL0 : 149 ≤ sL s := hl.1
      have hne : x1.toInt.toNat ≠ x5.toInt.toNat := by
        intro q
        rw [q, z] at e5
        cases e5
      have nY : fs x5.toInt.toNat = none := by
        cases hq : fs x5.toInt.toNat with
        | none => rfl
        | some v =>
          obtain ⟨h7, L7⟩ := v
          obtain ⟨-, -, b7, b1, -⟩ := (h x5.toInt.toNat (by omega)).2 h7 L7 hq
          rw [z] at b1
          cases b1
      have n4 : CLt (wR (nTree s) 100 x5.toInt.toNat (.ref (sL s))) fs lt := CLt.go h hu (fun f hf q => by
        rw [sR_wR, if_neg (fun z => q (by rw [z.2]; exact nY)), nT_R (by omega)]) (fun f b7 _ _ _ hk => by
        have hb := (hl.tr hk).2.2.2.1
        exact ⟨fun k => nT_I (by omega), nT_I (by omega), fun k => nT_I (by omega)⟩)
      have he : dm125_46 (Int32.ofNat x1.toInt.toNat) x2 x3 x4 (Int32.ofNat x5.toInt.toNat) b (sL s) (wR (nTree s) 100 x5.toInt.toNat (.ref (sL s))) = some (o, s9) := by
        rw [← ex1, ← ex5]
        exact he
      exact d125n (x := x1.toInt.toNat) (y := x5.toInt.toNat) (b := b) (c := sL s) (r := x2) (q := x3) (ho := x4) n1 n2 n3 n4 (by omega) (by omega) hL (by rw [sR_wR, if_neg (by omega), nT_R (by omega)]; exact e5) (by rw [sR_wR, if_pos ⟨rfl, rfl⟩]) (nT_K e3) n5 ⟨(nT_I (by omega)).trans e4.1, e4.2.1, fun i hi w hw => (nT_I (by omega)).trans (e4.2.2 i hi w hw)⟩ hE he
    · have z0 : sR s 100 (jN x5) = .ref c := z1
      rw [z0] at he
      simp only [vN_ref] at he
      rw [if_pos z2] at he
      have he : dm125_46 (Int32.ofNat x1.toInt.toNat) x2 x3 x4 (Int32.ofNat x5.toInt.toNat) b c s = some (o, s9) := by
        rw [← ex1, ← ex5]
        exact he
      exact d125n (x := x1.toInt.toNat) (y := x5.toInt.toNat) (b := b) (c := c) (r := x2) (q := x3) (ho := x4) hl h ht hu (by omega) (by omega) hL e5 z1 e3 z2 e4 hE he
